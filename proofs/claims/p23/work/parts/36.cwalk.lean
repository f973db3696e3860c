theorem dX7_breaks_0 : decode cX7_breaks 0 = .ok (.aload_n 0, 1) := by decide +kernel
theorem dX7_breaks_1 : decode cX7_breaks 1 = .ok (.getfield 9, 3) := by decide +kernel
theorem dX7_breaks_10 : decode cX7_breaks 10 = .ok (.aload_n 0, 1) := by decide +kernel
theorem dX7_breaks_100 : decode cX7_breaks 100 = .ok (.iconst 0, 1) := by decide +kernel
theorem dX7_breaks_101 : decode cX7_breaks 101 = .ok (.ireturn, 1) := by decide +kernel
theorem dX7_breaks_102 : decode cX7_breaks 102 = .ok (.aload_n 0, 1) := by decide +kernel
theorem dX7_breaks_103 : decode cX7_breaks 103 = .ok (.getfield 15, 3) := by decide +kernel
theorem dX7_breaks_106 : decode cX7_breaks 106 = .ok (.iload 9, 2) := by decide +kernel
theorem dX7_breaks_108 : decode cX7_breaks 108 = .ok (.iaload, 1) := by decide +kernel
theorem dX7_breaks_109 : decode cX7_breaks 109 = .ok (.ifCond .ne 44, 3) := by decide +kernel
theorem dX7_breaks_11 : decode cX7_breaks 11 = .ok (.getfield 9, 3) := by decide +kernel
theorem dX7_breaks_112 : decode cX7_breaks 112 = .ok (.aload_n 0, 1) := by decide +kernel
theorem dX7_breaks_113 : decode cX7_breaks 113 = .ok (.aload 6, 2) := by decide +kernel
theorem dX7_breaks_115 : decode cX7_breaks 115 = .ok (.aload 7, 2) := by decide +kernel
theorem dX7_breaks_117 : decode cX7_breaks 117 = .ok (.aload 8, 2) := by decide +kernel
theorem dX7_breaks_119 : decode cX7_breaks 119 = .ok (.iload 4, 2) := by decide +kernel
theorem dX7_breaks_121 : decode cX7_breaks 121 = .ok (.iload 5, 2) := by decide +kernel
theorem dX7_breaks_123 : decode cX7_breaks 123 = .ok (.invokevirtual 23, 3) := by decide +kernel
theorem dX7_breaks_126 : decode cX7_breaks 126 = .ok (.ifCond .eq 7, 3) := by decide +kernel
theorem dX7_breaks_129 : decode cX7_breaks 129 = .ok (.iconst 1, 1) := by decide +kernel
theorem dX7_breaks_130 : decode cX7_breaks 130 = .ok (.goto 4, 3) := by decide +kernel
theorem dX7_breaks_133 : decode cX7_breaks 133 = .ok (.iconst 0, 1) := by decide +kernel
theorem dX7_breaks_134 : decode cX7_breaks 134 = .ok (.istore 10, 2) := by decide +kernel
theorem dX7_breaks_136 : decode cX7_breaks 136 = .ok (.aload_n 0, 1) := by decide +kernel
theorem dX7_breaks_137 : decode cX7_breaks 137 = .ok (.getfield 15, 3) := by decide +kernel
theorem dX7_breaks_14 : decode cX7_breaks 14 = .ok (.iload_n 2, 1) := by decide +kernel
theorem dX7_breaks_140 : decode cX7_breaks 140 = .ok (.iload 9, 2) := by decide +kernel
theorem dX7_breaks_142 : decode cX7_breaks 142 = .ok (.iload 10, 2) := by decide +kernel
theorem dX7_breaks_144 : decode cX7_breaks 144 = .ok (.ifCond .eq 7, 3) := by decide +kernel
theorem dX7_breaks_147 : decode cX7_breaks 147 = .ok (.iconst 2, 1) := by decide +kernel
theorem dX7_breaks_148 : decode cX7_breaks 148 = .ok (.goto 4, 3) := by decide +kernel
theorem dX7_breaks_15 : decode cX7_breaks 15 = .ok (.invokestatic 19, 3) := by decide +kernel
theorem dX7_breaks_151 : decode cX7_breaks 151 = .ok (.iconst 1, 1) := by decide +kernel
theorem dX7_breaks_152 : decode cX7_breaks 152 = .ok (.iastore, 1) := by decide +kernel
theorem dX7_breaks_153 : decode cX7_breaks 153 = .ok (.aload_n 0, 1) := by decide +kernel
theorem dX7_breaks_154 : decode cX7_breaks 154 = .ok (.getfield 15, 3) := by decide +kernel
theorem dX7_breaks_157 : decode cX7_breaks 157 = .ok (.iload 9, 2) := by decide +kernel
theorem dX7_breaks_159 : decode cX7_breaks 159 = .ok (.iaload, 1) := by decide +kernel
theorem dX7_breaks_160 : decode cX7_breaks 160 = .ok (.iconst 2, 1) := by decide +kernel
theorem dX7_breaks_161 : decode cX7_breaks 161 = .ok (.if_icmp .ne 7, 3) := by decide +kernel
theorem dX7_breaks_164 : decode cX7_breaks 164 = .ok (.iconst 1, 1) := by decide +kernel
theorem dX7_breaks_165 : decode cX7_breaks 165 = .ok (.goto 4, 3) := by decide +kernel
theorem dX7_breaks_168 : decode cX7_breaks 168 = .ok (.iconst 0, 1) := by decide +kernel
theorem dX7_breaks_169 : decode cX7_breaks 169 = .ok (.ireturn, 1) := by decide +kernel
theorem dX7_breaks_18 : decode cX7_breaks 18 = .ok (.astore 7, 2) := by decide +kernel
theorem dX7_breaks_20 : decode cX7_breaks 20 = .ok (.aload_n 0, 1) := by decide +kernel
theorem dX7_breaks_21 : decode cX7_breaks 21 = .ok (.getfield 9, 3) := by decide +kernel
theorem dX7_breaks_24 : decode cX7_breaks 24 = .ok (.iload_n 3, 1) := by decide +kernel
theorem dX7_breaks_25 : decode cX7_breaks 25 = .ok (.invokestatic 19, 3) := by decide +kernel
theorem dX7_breaks_28 : decode cX7_breaks 28 = .ok (.astore 8, 2) := by decide +kernel
theorem dX7_breaks_30 : decode cX7_breaks 30 = .ok (.aload 6, 2) := by decide +kernel
theorem dX7_breaks_32 : decode cX7_breaks 32 = .ok (.ifnull 25, 3) := by decide +kernel
theorem dX7_breaks_35 : decode cX7_breaks 35 = .ok (.aload 7, 2) := by decide +kernel
theorem dX7_breaks_37 : decode cX7_breaks 37 = .ok (.ifnull 20, 3) := by decide +kernel
theorem dX7_breaks_4 : decode cX7_breaks 4 = .ok (.iload_n 1, 1) := by decide +kernel
theorem dX7_breaks_40 : decode cX7_breaks 40 = .ok (.aload 8, 2) := by decide +kernel
theorem dX7_breaks_42 : decode cX7_breaks 42 = .ok (.ifnull 15, 3) := by decide +kernel
theorem dX7_breaks_45 : decode cX7_breaks 45 = .ok (.iload 5, 2) := by decide +kernel
theorem dX7_breaks_47 : decode cX7_breaks 47 = .ok (.ifCond .lt 10, 3) := by decide +kernel
theorem dX7_breaks_5 : decode cX7_breaks 5 = .ok (.invokestatic 19, 3) := by decide +kernel
theorem dX7_breaks_50 : decode cX7_breaks 50 = .ok (.iload 5, 2) := by decide +kernel
theorem dX7_breaks_52 : decode cX7_breaks 52 = .ok (.bipush 8, 2) := by decide +kernel
theorem dX7_breaks_54 : decode cX7_breaks 54 = .ok (.if_icmp .le 5, 3) := by decide +kernel
theorem dX7_breaks_57 : decode cX7_breaks 57 = .ok (.iconst 0, 1) := by decide +kernel
theorem dX7_breaks_58 : decode cX7_breaks 58 = .ok (.ireturn, 1) := by decide +kernel
theorem dX7_breaks_59 : decode cX7_breaks 59 = .ok (.iload_n 1, 1) := by decide +kernel
theorem dX7_breaks_60 : decode cX7_breaks 60 = .ok (.bipush 8, 2) := by decide +kernel
theorem dX7_breaks_62 : decode cX7_breaks 62 = .ok (.imul, 1) := by decide +kernel
theorem dX7_breaks_63 : decode cX7_breaks 63 = .ok (.iload_n 2, 1) := by decide +kernel
theorem dX7_breaks_64 : decode cX7_breaks 64 = .ok (.iadd, 1) := by decide +kernel
theorem dX7_breaks_65 : decode cX7_breaks 65 = .ok (.bipush 8, 2) := by decide +kernel
theorem dX7_breaks_67 : decode cX7_breaks 67 = .ok (.imul, 1) := by decide +kernel
theorem dX7_breaks_68 : decode cX7_breaks 68 = .ok (.iload_n 3, 1) := by decide +kernel
theorem dX7_breaks_69 : decode cX7_breaks 69 = .ok (.iadd, 1) := by decide +kernel
theorem dX7_breaks_70 : decode cX7_breaks 70 = .ok (.iconst 2, 1) := by decide +kernel
theorem dX7_breaks_71 : decode cX7_breaks 71 = .ok (.imul, 1) := by decide +kernel
theorem dX7_breaks_72 : decode cX7_breaks 72 = .ok (.iload 4, 2) := by decide +kernel
theorem dX7_breaks_74 : decode cX7_breaks 74 = .ok (.ifCond .eq 7, 3) := by decide +kernel
theorem dX7_breaks_77 : decode cX7_breaks 77 = .ok (.iconst 1, 1) := by decide +kernel
theorem dX7_breaks_78 : decode cX7_breaks 78 = .ok (.goto 4, 3) := by decide +kernel
theorem dX7_breaks_8 : decode cX7_breaks 8 = .ok (.astore 6, 2) := by decide +kernel
theorem dX7_breaks_81 : decode cX7_breaks 81 = .ok (.iconst 0, 1) := by decide +kernel
theorem dX7_breaks_82 : decode cX7_breaks 82 = .ok (.iadd, 1) := by decide +kernel
theorem dX7_breaks_83 : decode cX7_breaks 83 = .ok (.istore 9, 2) := by decide +kernel
theorem dX7_breaks_85 : decode cX7_breaks 85 = .ok (.iload 9, 2) := by decide +kernel
theorem dX7_breaks_87 : decode cX7_breaks 87 = .ok (.ifCond .lt 13, 3) := by decide +kernel
theorem dX7_breaks_90 : decode cX7_breaks 90 = .ok (.iload 9, 2) := by decide +kernel
theorem dX7_breaks_92 : decode cX7_breaks 92 = .ok (.aload_n 0, 1) := by decide +kernel
theorem dX7_breaks_93 : decode cX7_breaks 93 = .ok (.getfield 15, 3) := by decide +kernel
theorem dX7_breaks_96 : decode cX7_breaks 96 = .ok (.arraylength, 1) := by decide +kernel
theorem dX7_breaks_97 : decode cX7_breaks 97 = .ok (.if_icmp .lt 5, 3) := by decide +kernel
theorem dX7_firstNumber_0 : decode cX7_firstNumber 0 = .ok (.iconst 1, 1) := by decide +kernel
theorem dX7_firstNumber_1 : decode cX7_firstNumber 1 = .ok (.istore 6, 2) := by decide +kernel
theorem dX7_firstNumber_10 : decode cX7_firstNumber 10 = .ok (.aload_n 0, 1) := by decide +kernel
theorem dX7_firstNumber_11 : decode cX7_firstNumber 11 = .ok (.iload 6, 2) := by decide +kernel
theorem dX7_firstNumber_13 : decode cX7_firstNumber 13 = .ok (.aload_n 1, 1) := by decide +kernel
theorem dX7_firstNumber_14 : decode cX7_firstNumber 14 = .ok (.aload_n 2, 1) := by decide +kernel
theorem dX7_firstNumber_15 : decode cX7_firstNumber 15 = .ok (.aload_n 3, 1) := by decide +kernel
theorem dX7_firstNumber_16 : decode cX7_firstNumber 16 = .ok (.iload 4, 2) := by decide +kernel
theorem dX7_firstNumber_18 : decode cX7_firstNumber 18 = .ok (.iload 5, 2) := by decide +kernel
theorem dX7_firstNumber_20 : decode cX7_firstNumber 20 = .ok (.invokevirtual 27, 3) := by decide +kernel
theorem dX7_firstNumber_23 : decode cX7_firstNumber 23 = .ok (.ifCond .eq 6, 3) := by decide +kernel
theorem dX7_firstNumber_26 : decode cX7_firstNumber 26 = .ok (.iload 6, 2) := by decide +kernel
theorem dX7_firstNumber_28 : decode cX7_firstNumber 28 = .ok (.ireturn, 1) := by decide +kernel
theorem dX7_firstNumber_29 : decode cX7_firstNumber 29 = .ok (.iinc 6 1, 3) := by decide +kernel
theorem dX7_firstNumber_3 : decode cX7_firstNumber 3 = .ok (.iload 6, 2) := by decide +kernel
theorem dX7_firstNumber_32 : decode cX7_firstNumber 32 = .ok (.goto (-29), 3) := by decide +kernel
theorem dX7_firstNumber_35 : decode cX7_firstNumber 35 = .ok (.iconst 0, 1) := by decide +kernel
theorem dX7_firstNumber_36 : decode cX7_firstNumber 36 = .ok (.ireturn, 1) := by decide +kernel
theorem dX7_firstNumber_5 : decode cX7_firstNumber 5 = .ok (.bipush 30, 2) := by decide +kernel
theorem dX7_firstNumber_7 : decode cX7_firstNumber 7 = .ok (.if_icmp .gt 28, 3) := by decide +kernel
theorem dX7_isCrowded_0 : decode cX7_isCrowded 0 = .ok (.aload_n 2, 1) := by decide +kernel
theorem dX7_isCrowded_1 : decode cX7_isCrowded 1 = .ok (.aload_n 0, 1) := by decide +kernel
theorem dX7_isCrowded_10 : decode cX7_isCrowded 10 = .ok (.ifnonnull 5, 3) := by decide +kernel
theorem dX7_isCrowded_13 : decode cX7_isCrowded 13 = .ok (.iconst 0, 1) := by decide +kernel
theorem dX7_isCrowded_14 : decode cX7_isCrowded 14 = .ok (.ireturn, 1) := by decide +kernel
theorem dX7_isCrowded_15 : decode cX7_isCrowded 15 = .ok (.iconst 1, 1) := by decide +kernel
theorem dX7_isCrowded_16 : decode cX7_isCrowded 16 = .ok (.istore 4, 2) := by decide +kernel
theorem dX7_isCrowded_18 : decode cX7_isCrowded 18 = .ok (.iload 4, 2) := by decide +kernel
theorem dX7_isCrowded_2 : decode cX7_isCrowded 2 = .ok (.getfield 66, 3) := by decide +kernel
theorem dX7_isCrowded_20 : decode cX7_isCrowded 20 = .ok (.aload_n 0, 1) := by decide +kernel
theorem dX7_isCrowded_21 : decode cX7_isCrowded 21 = .ok (.getfield 66, 3) := by decide +kernel
theorem dX7_isCrowded_24 : decode cX7_isCrowded 24 = .ok (.if_icmp .ge 55, 3) := by decide +kernel
theorem dX7_isCrowded_27 : decode cX7_isCrowded 27 = .ok (.aload_n 2, 1) := by decide +kernel
theorem dX7_isCrowded_28 : decode cX7_isCrowded 28 = .ok (.iload 4, 2) := by decide +kernel
theorem dX7_isCrowded_30 : decode cX7_isCrowded 30 = .ok (.invokevirtual 31, 3) := by decide +kernel
theorem dX7_isCrowded_33 : decode cX7_isCrowded 33 = .ok (.astore 5, 2) := by decide +kernel
theorem dX7_isCrowded_35 : decode cX7_isCrowded 35 = .ok (.aload_n 1, 1) := by decide +kernel
theorem dX7_isCrowded_36 : decode cX7_isCrowded 36 = .ok (.iload 4, 2) := by decide +kernel
theorem dX7_isCrowded_38 : decode cX7_isCrowded 38 = .ok (.invokevirtual 31, 3) := by decide +kernel
theorem dX7_isCrowded_41 : decode cX7_isCrowded 41 = .ok (.astore 6, 2) := by decide +kernel
theorem dX7_isCrowded_43 : decode cX7_isCrowded 43 = .ok (.aload 5, 2) := by decide +kernel
theorem dX7_isCrowded_45 : decode cX7_isCrowded 45 = .ok (.ifnull 28, 3) := by decide +kernel
theorem dX7_isCrowded_48 : decode cX7_isCrowded 48 = .ok (.aload 6, 2) := by decide +kernel
theorem dX7_isCrowded_5 : decode cX7_isCrowded 5 = .ok (.invokevirtual 31, 3) := by decide +kernel
theorem dX7_isCrowded_50 : decode cX7_isCrowded 50 = .ok (.ifnull 23, 3) := by decide +kernel
theorem dX7_isCrowded_53 : decode cX7_isCrowded 53 = .ok (.aload_n 3, 1) := by decide +kernel
theorem dX7_isCrowded_54 : decode cX7_isCrowded 54 = .ok (.aload 5, 2) := by decide +kernel
theorem dX7_isCrowded_56 : decode cX7_isCrowded 56 = .ok (.invokevirtual 69, 3) := by decide +kernel
theorem dX7_isCrowded_59 : decode cX7_isCrowded 59 = .ok (.ifCond .eq 14, 3) := by decide +kernel
theorem dX7_isCrowded_62 : decode cX7_isCrowded 62 = .ok (.aload_n 0, 1) := by decide +kernel
theorem dX7_isCrowded_63 : decode cX7_isCrowded 63 = .ok (.aload 6, 2) := by decide +kernel
theorem dX7_isCrowded_65 : decode cX7_isCrowded 65 = .ok (.invokevirtual 69, 3) := by decide +kernel
theorem dX7_isCrowded_68 : decode cX7_isCrowded 68 = .ok (.ifCond .ne 5, 3) := by decide +kernel
theorem dX7_isCrowded_71 : decode cX7_isCrowded 71 = .ok (.iconst 1, 1) := by decide +kernel
theorem dX7_isCrowded_72 : decode cX7_isCrowded 72 = .ok (.ireturn, 1) := by decide +kernel
theorem dX7_isCrowded_73 : decode cX7_isCrowded 73 = .ok (.iinc 4 1, 3) := by decide +kernel
theorem dX7_isCrowded_76 : decode cX7_isCrowded 76 = .ok (.goto (-58), 3) := by decide +kernel
theorem dX7_isCrowded_79 : decode cX7_isCrowded 79 = .ok (.iconst 0, 1) := by decide +kernel
theorem dX7_isCrowded_8 : decode cX7_isCrowded 8 = .ok (.astore_n 3, 1) := by decide +kernel
theorem dX7_isCrowded_80 : decode cX7_isCrowded 80 = .ok (.ireturn, 1) := by decide +kernel
theorem dX7_isCrowded_9 : decode cX7_isCrowded 9 = .ok (.aload_n 3, 1) := by decide +kernel
theorem dX7_isNarrower_0 : decode cX7_isNarrower 0 = .ok (.aload_n 0, 1) := by decide +kernel
theorem dX7_isNarrower_1 : decode cX7_isNarrower 1 = .ok (.ifnull 15, 3) := by decide +kernel
theorem dX7_isNarrower_12 : decode cX7_isNarrower 12 = .ok (.iconst 1, 1) := by decide +kernel
theorem dX7_isNarrower_13 : decode cX7_isNarrower 13 = .ok (.goto 4, 3) := by decide +kernel
theorem dX7_isNarrower_16 : decode cX7_isNarrower 16 = .ok (.iconst 0, 1) := by decide +kernel
theorem dX7_isNarrower_17 : decode cX7_isNarrower 17 = .ok (.ireturn, 1) := by decide +kernel
theorem dX7_isNarrower_4 : decode cX7_isNarrower 4 = .ok (.aload_n 0, 1) := by decide +kernel
theorem dX7_isNarrower_5 : decode cX7_isNarrower 5 = .ok (.aload_n 1, 1) := by decide +kernel
theorem dX7_isNarrower_6 : decode cX7_isNarrower 6 = .ok (.invokevirtual 64, 3) := by decide +kernel
theorem dX7_isNarrower_9 : decode cX7_isNarrower 9 = .ok (.ifCond .eq 7, 3) := by decide +kernel
theorem dX7_isOtherSort_0 : decode cX7_isOtherSort 0 = .ok (.aload_n 1, 1) := by decide +kernel
theorem dX7_isOtherSort_1 : decode cX7_isOtherSort 1 = .ok (.ifnull 15, 3) := by decide +kernel
theorem dX7_isOtherSort_12 : decode cX7_isOtherSort 12 = .ok (.iconst 1, 1) := by decide +kernel
theorem dX7_isOtherSort_13 : decode cX7_isOtherSort 13 = .ok (.goto 4, 3) := by decide +kernel
theorem dX7_isOtherSort_16 : decode cX7_isOtherSort 16 = .ok (.iconst 0, 1) := by decide +kernel
theorem dX7_isOtherSort_17 : decode cX7_isOtherSort 17 = .ok (.ireturn, 1) := by decide +kernel
theorem dX7_isOtherSort_4 : decode cX7_isOtherSort 4 = .ok (.aload_n 1, 1) := by decide +kernel
theorem dX7_isOtherSort_5 : decode cX7_isOtherSort 5 = .ok (.aload_n 0, 1) := by decide +kernel
theorem dX7_isOtherSort_6 : decode cX7_isOtherSort 6 = .ok (.invokevirtual 62, 3) := by decide +kernel
theorem dX7_isOtherSort_9 : decode cX7_isOtherSort 9 = .ok (.ifCond .eq 7, 3) := by decide +kernel
theorem dX7_recBreaks_0 : decode cX7_recBreaks 0 = .ok (.aload_n 2, 1) := by decide +kernel
theorem dX7_recBreaks_1 : decode cX7_recBreaks 1 = .ok (.ifnonnull 9, 3) := by decide +kernel
theorem dX7_recBreaks_10 : decode cX7_recBreaks 10 = .ok (.aload_n 2, 1) := by decide +kernel
theorem dX7_recBreaks_11 : decode cX7_recBreaks 11 = .ok (.ifnull 10, 3) := by decide +kernel
theorem dX7_recBreaks_14 : decode cX7_recBreaks 14 = .ok (.aload_n 2, 1) := by decide +kernel
theorem dX7_recBreaks_15 : decode cX7_recBreaks 15 = .ok (.getfield 72, 3) := by decide +kernel
theorem dX7_recBreaks_18 : decode cX7_recBreaks 18 = .ok (.goto 7, 3) := by decide +kernel
theorem dX7_recBreaks_21 : decode cX7_recBreaks 21 = .ok (.aload_n 3, 1) := by decide +kernel
theorem dX7_recBreaks_22 : decode cX7_recBreaks 22 = .ok (.getfield 72, 3) := by decide +kernel
theorem dX7_recBreaks_25 : decode cX7_recBreaks 25 = .ok (.istore 6, 2) := by decide +kernel
theorem dX7_recBreaks_27 : decode cX7_recBreaks 27 = .ok (.aload_n 3, 1) := by decide +kernel
theorem dX7_recBreaks_28 : decode cX7_recBreaks 28 = .ok (.ifnull 10, 3) := by decide +kernel
theorem dX7_recBreaks_31 : decode cX7_recBreaks 31 = .ok (.aload_n 3, 1) := by decide +kernel
theorem dX7_recBreaks_32 : decode cX7_recBreaks 32 = .ok (.getfield 72, 3) := by decide +kernel
theorem dX7_recBreaks_35 : decode cX7_recBreaks 35 = .ok (.goto 7, 3) := by decide +kernel
theorem dX7_recBreaks_38 : decode cX7_recBreaks 38 = .ok (.aload_n 2, 1) := by decide +kernel
theorem dX7_recBreaks_39 : decode cX7_recBreaks 39 = .ok (.getfield 72, 3) := by decide +kernel
theorem dX7_recBreaks_4 : decode cX7_recBreaks 4 = .ok (.aload_n 3, 1) := by decide +kernel
theorem dX7_recBreaks_42 : decode cX7_recBreaks 42 = .ok (.istore 7, 2) := by decide +kernel
theorem dX7_recBreaks_44 : decode cX7_recBreaks 44 = .ok (.aload_n 0, 1) := by decide +kernel
theorem dX7_recBreaks_45 : decode cX7_recBreaks 45 = .ok (.aload_n 1, 1) := by decide +kernel
theorem dX7_recBreaks_46 : decode cX7_recBreaks 46 = .ok (.getfield 72, 3) := by decide +kernel
theorem dX7_recBreaks_49 : decode cX7_recBreaks 49 = .ok (.iload 6, 2) := by decide +kernel
theorem dX7_recBreaks_5 : decode cX7_recBreaks 5 = .ok (.ifnonnull 5, 3) := by decide +kernel
theorem dX7_recBreaks_51 : decode cX7_recBreaks 51 = .ok (.iload 7, 2) := by decide +kernel
theorem dX7_recBreaks_53 : decode cX7_recBreaks 53 = .ok (.iload 4, 2) := by decide +kernel
theorem dX7_recBreaks_55 : decode cX7_recBreaks 55 = .ok (.ifCond .eq 11, 3) := by decide +kernel
theorem dX7_recBreaks_58 : decode cX7_recBreaks 58 = .ok (.aload_n 3, 1) := by decide +kernel
theorem dX7_recBreaks_59 : decode cX7_recBreaks 59 = .ok (.ifnull 7, 3) := by decide +kernel
theorem dX7_recBreaks_62 : decode cX7_recBreaks 62 = .ok (.iconst 1, 1) := by decide +kernel
theorem dX7_recBreaks_63 : decode cX7_recBreaks 63 = .ok (.goto 4, 3) := by decide +kernel
theorem dX7_recBreaks_66 : decode cX7_recBreaks 66 = .ok (.iconst 0, 1) := by decide +kernel
theorem dX7_recBreaks_67 : decode cX7_recBreaks 67 = .ok (.iload 5, 2) := by decide +kernel
theorem dX7_recBreaks_69 : decode cX7_recBreaks 69 = .ok (.iconst 1, 1) := by decide +kernel
theorem dX7_recBreaks_70 : decode cX7_recBreaks 70 = .ok (.iadd, 1) := by decide +kernel
theorem dX7_recBreaks_71 : decode cX7_recBreaks 71 = .ok (.invokevirtual 75, 3) := by decide +kernel
theorem dX7_recBreaks_74 : decode cX7_recBreaks 74 = .ok (.ireturn, 1) := by decide +kernel
theorem dX7_recBreaks_8 : decode cX7_recBreaks 8 = .ok (.iconst 0, 1) := by decide +kernel
theorem dX7_recBreaks_9 : decode cX7_recBreaks 9 = .ok (.ireturn, 1) := by decide +kernel
theorem dX7_whyBy_0 : decode cX7_whyBy 0 = .ok (.aload_n 2, 1) := by decide +kernel
theorem dX7_whyBy_1 : decode cX7_whyBy 1 = .ok (.iload_n 1, 1) := by decide +kernel
theorem dX7_whyBy_102 : decode cX7_whyBy 102 = .ok (.ifCond .ne 14, 3) := by decide +kernel
theorem dX7_whyBy_105 : decode cX7_whyBy 105 = .ok (.aload 7, 2) := by decide +kernel
theorem dX7_whyBy_107 : decode cX7_whyBy 107 = .ok (.aload_n 2, 1) := by decide +kernel
theorem dX7_whyBy_108 : decode cX7_whyBy 108 = .ok (.aload 4, 2) := by decide +kernel
theorem dX7_whyBy_110 : decode cX7_whyBy 110 = .ok (.invokestatic 50, 3) := by decide +kernel
theorem dX7_whyBy_113 : decode cX7_whyBy 113 = .ok (.ifCond .eq 5, 3) := by decide +kernel
theorem dX7_whyBy_116 : decode cX7_whyBy 116 = .ok (.iconst 4, 1) := by decide +kernel
theorem dX7_whyBy_117 : decode cX7_whyBy 117 = .ok (.ireturn, 1) := by decide +kernel
theorem dX7_whyBy_118 : decode cX7_whyBy 118 = .ok (.aload 7, 2) := by decide +kernel
theorem dX7_whyBy_12 : decode cX7_whyBy 12 = .ok (.iconst 0, 1) := by decide +kernel
theorem dX7_whyBy_120 : decode cX7_whyBy 120 = .ok (.getfield 54, 3) := by decide +kernel
theorem dX7_whyBy_123 : decode cX7_whyBy 123 = .ok (.bipush 6, 2) := by decide +kernel
theorem dX7_whyBy_125 : decode cX7_whyBy 125 = .ok (.if_icmp .ne 24, 3) := by decide +kernel
theorem dX7_whyBy_128 : decode cX7_whyBy 128 = .ok (.aload_n 0, 1) := by decide +kernel
theorem dX7_whyBy_129 : decode cX7_whyBy 129 = .ok (.aload 7, 2) := by decide +kernel
theorem dX7_whyBy_13 : decode cX7_whyBy 13 = .ok (.ireturn, 1) := by decide +kernel
theorem dX7_whyBy_131 : decode cX7_whyBy 131 = .ok (.aload 8, 2) := by decide +kernel
theorem dX7_whyBy_133 : decode cX7_whyBy 133 = .ok (.aload 9, 2) := by decide +kernel
theorem dX7_whyBy_135 : decode cX7_whyBy 135 = .ok (.iload 5, 2) := by decide +kernel
theorem dX7_whyBy_137 : decode cX7_whyBy 137 = .ok (.iload 6, 2) := by decide +kernel
theorem dX7_whyBy_139 : decode cX7_whyBy 139 = .ok (.invokevirtual 58, 3) := by decide +kernel
theorem dX7_whyBy_14 : decode cX7_whyBy 14 = .ok (.aload_n 3, 1) := by decide +kernel
theorem dX7_whyBy_142 : decode cX7_whyBy 142 = .ok (.ifCond .eq 7, 3) := by decide +kernel
theorem dX7_whyBy_145 : decode cX7_whyBy 145 = .ok (.iconst 5, 1) := by decide +kernel
theorem dX7_whyBy_146 : decode cX7_whyBy 146 = .ok (.goto 4, 3) := by decide +kernel
theorem dX7_whyBy_149 : decode cX7_whyBy 149 = .ok (.iconst 0, 1) := by decide +kernel
theorem dX7_whyBy_15 : decode cX7_whyBy 15 = .ok (.iload_n 1, 1) := by decide +kernel
theorem dX7_whyBy_150 : decode cX7_whyBy 150 = .ok (.ireturn, 1) := by decide +kernel
theorem dX7_whyBy_16 : decode cX7_whyBy 16 = .ok (.invokevirtual 31, 3) := by decide +kernel
theorem dX7_whyBy_19 : decode cX7_whyBy 19 = .ok (.astore 8, 2) := by decide +kernel
theorem dX7_whyBy_2 : decode cX7_whyBy 2 = .ok (.invokevirtual 31, 3) := by decide +kernel
theorem dX7_whyBy_21 : decode cX7_whyBy 21 = .ok (.aload 4, 2) := by decide +kernel
theorem dX7_whyBy_23 : decode cX7_whyBy 23 = .ok (.iload_n 1, 1) := by decide +kernel
theorem dX7_whyBy_24 : decode cX7_whyBy 24 = .ok (.invokevirtual 31, 3) := by decide +kernel
theorem dX7_whyBy_27 : decode cX7_whyBy 27 = .ok (.astore 9, 2) := by decide +kernel
theorem dX7_whyBy_29 : decode cX7_whyBy 29 = .ok (.aload 7, 2) := by decide +kernel
theorem dX7_whyBy_31 : decode cX7_whyBy 31 = .ok (.aload 8, 2) := by decide +kernel
theorem dX7_whyBy_33 : decode cX7_whyBy 33 = .ok (.invokestatic 37, 3) := by decide +kernel
theorem dX7_whyBy_36 : decode cX7_whyBy 36 = .ok (.ifCond .ne 13, 3) := by decide +kernel
theorem dX7_whyBy_39 : decode cX7_whyBy 39 = .ok (.aload 7, 2) := by decide +kernel
theorem dX7_whyBy_41 : decode cX7_whyBy 41 = .ok (.aload 9, 2) := by decide +kernel
theorem dX7_whyBy_43 : decode cX7_whyBy 43 = .ok (.invokestatic 37, 3) := by decide +kernel
theorem dX7_whyBy_46 : decode cX7_whyBy 46 = .ok (.ifCond .eq 5, 3) := by decide +kernel
theorem dX7_whyBy_49 : decode cX7_whyBy 49 = .ok (.iconst 1, 1) := by decide +kernel
theorem dX7_whyBy_5 : decode cX7_whyBy 5 = .ok (.astore 7, 2) := by decide +kernel
theorem dX7_whyBy_50 : decode cX7_whyBy 50 = .ok (.ireturn, 1) := by decide +kernel
theorem dX7_whyBy_51 : decode cX7_whyBy 51 = .ok (.aload 8, 2) := by decide +kernel
theorem dX7_whyBy_53 : decode cX7_whyBy 53 = .ok (.aload 7, 2) := by decide +kernel
theorem dX7_whyBy_55 : decode cX7_whyBy 55 = .ok (.invokestatic 41, 3) := by decide +kernel
theorem dX7_whyBy_58 : decode cX7_whyBy 58 = .ok (.ifCond .ne 13, 3) := by decide +kernel
theorem dX7_whyBy_61 : decode cX7_whyBy 61 = .ok (.aload 9, 2) := by decide +kernel
theorem dX7_whyBy_63 : decode cX7_whyBy 63 = .ok (.aload 7, 2) := by decide +kernel
theorem dX7_whyBy_65 : decode cX7_whyBy 65 = .ok (.invokestatic 41, 3) := by decide +kernel
theorem dX7_whyBy_68 : decode cX7_whyBy 68 = .ok (.ifCond .eq 5, 3) := by decide +kernel
theorem dX7_whyBy_7 : decode cX7_whyBy 7 = .ok (.aload 7, 2) := by decide +kernel
theorem dX7_whyBy_71 : decode cX7_whyBy 71 = .ok (.iconst 2, 1) := by decide +kernel
theorem dX7_whyBy_72 : decode cX7_whyBy 72 = .ok (.ireturn, 1) := by decide +kernel
theorem dX7_whyBy_73 : decode cX7_whyBy 73 = .ok (.iload 5, 2) := by decide +kernel
theorem dX7_whyBy_75 : decode cX7_whyBy 75 = .ok (.ifCond .eq 20, 3) := by decide +kernel
theorem dX7_whyBy_78 : decode cX7_whyBy 78 = .ok (.aload 9, 2) := by decide +kernel
theorem dX7_whyBy_80 : decode cX7_whyBy 80 = .ok (.ifnull 15, 3) := by decide +kernel
theorem dX7_whyBy_83 : decode cX7_whyBy 83 = .ok (.aload 9, 2) := by decide +kernel
theorem dX7_whyBy_85 : decode cX7_whyBy 85 = .ok (.aload 7, 2) := by decide +kernel
theorem dX7_whyBy_87 : decode cX7_whyBy 87 = .ok (.invokevirtual 44, 3) := by decide +kernel
theorem dX7_whyBy_9 : decode cX7_whyBy 9 = .ok (.ifnonnull 5, 3) := by decide +kernel
theorem dX7_whyBy_90 : decode cX7_whyBy 90 = .ok (.ifCond .eq 5, 3) := by decide +kernel
theorem dX7_whyBy_93 : decode cX7_whyBy 93 = .ok (.iconst 3, 1) := by decide +kernel
theorem dX7_whyBy_94 : decode cX7_whyBy 94 = .ok (.ireturn, 1) := by decide +kernel
theorem dX7_whyBy_95 : decode cX7_whyBy 95 = .ok (.aload 7, 2) := by decide +kernel
theorem dX7_whyBy_97 : decode cX7_whyBy 97 = .ok (.aload_n 2, 1) := by decide +kernel
theorem dX7_whyBy_98 : decode cX7_whyBy 98 = .ok (.aload_n 3, 1) := by decide +kernel
theorem dX7_whyBy_99 : decode cX7_whyBy 99 = .ok (.invokestatic 50, 3) := by decide +kernel
noncomputable def fX7_isOtherSort (p0 : Option Nat) (p1 : Option Nat) (st : CS) : Option (Int32 × CS) := pif (p1 = none) (some ((0 : Int32), st)) (ono p1 (fun a_2 => gd (qk st a_2 = 3) (bnd (fX0_isOtherSort a_2 p0 st) (fun r_7 st_5 => pif (r_7 = 0) (some ((0 : Int32), st_5)) (some ((1 : Int32), st_5))))))
set_option maxHeartbeats 1000000 in
theorem mo_X7_isOtherSort (p0 : Option Nat) (p1 : Option Nat) (st : CS) (r : Int32) (st' : CS) (hf : fX7_isOtherSort p0 p1 st = some (r, st')) : Ke st st' := by
  unfold fX7_isOtherSort at hf
  have hm : Ke st st := Ke.rf
  rcases pif_or hf with ⟨c_1, hf⟩ | ⟨c_1, hf⟩
  · obtain ⟨e1, e2⟩ := pr_some hf
    exact e2 ▸ hm
  · obtain ⟨a_2, ha_3, hf⟩ := ono_some hf
    obtain ⟨hk_4, hf⟩ := gd_some hf
    obtain ⟨r_7, st_5, hc_6, hf⟩ := bnd_some hf
    have hm := hm.tr (mo_X0_isOtherSort a_2 p0 _ _ _ hc_6)
    rcases pif_or hf with ⟨c_8, hf⟩ | ⟨c_8, hf⟩
    · obtain ⟨e1, e2⟩ := pr_some hf
      exact e2 ▸ hm
    · obtain ⟨e1, e2⟩ := pr_some hf
      exact e2 ▸ hm
def wq_X7_isOtherSort : List Cond := .code yX7_isOtherSort cX7_isOtherSort 2 (some .boolean) :: (([.methodLink RX7 62 yX0_isOtherSort, .instanceMethod yX0_isOtherSort, .selects RX0 yX0_isOtherSort yX0_isOtherSort, .initialized RX0, .code yX0_isOtherSort cX0_isOtherSort 2 (some .boolean), .fieldLink RX0 15 "RecordBench$Field" "kind" "I", .methodLink RX0 51 yX0_isNumber, .instanceMethod yX0_isNumber, .selects RX0 yX0_isNumber yX0_isNumber, .code yX0_isNumber cX0_isNumber 1 (some .boolean)] : List Cond) ++ wsX00)
theorem gs_wq_X7_isOtherSort_wsX00 : GoodIn wq_X7_isOtherSort wsX00 := fun w h => ⟨List.mem_cons_of_mem _ (List.mem_append_right _ h), (gt_wsX00 w h).2⟩
set_option maxRecDepth 20000 in
theorem gq_X7_isOtherSort_X0_isOtherSort_62 : GoodIn wq_X7_isOtherSort (wsV RX7 62 RX0 yX0_isOtherSort wq_X0_isOtherSort) := goodIn_app (goodIn_r _ [1, 2, 3, 4] rfl rfl) (goodIn_ca (goodIn_r _ [5, 6, 7, 8, 9, 4, 10] rfl rfl) gs_wq_X7_isOtherSort_wsX00)
set_option maxHeartbeats 4000000 in
set_option maxRecDepth 100000 in
theorem c_X7_isOtherSort (l : Launch) (dC : Nat → ClassId) (dI : Nat → Nat → Nat) (ka ad : Nat → Nat) (ct : Nat → ClassId) (p0 : Option Nat) (p1 : Option Nat) (st st' : CS) (r : Int32) (hf : fX7_isOtherSort p0 p1 st = some (r, st')) (sz : Nat) : Met l yX7_isOtherSort wq_X7_isOtherSort ({ frames := 2, cells := 0, slots := 0, locals := 49 }) (va_Pc [va_rf (Option.map ad p0), va_rf (Option.map ad p1)] (PrC (dC, dI) ct ka ad st sz)) (va_Qi (fun r' (_ : Unit) => r' = r) (fun _ => CB (dC, dI) ct ka ad st' (aC ad st sz)) (aC ad st sz)) 0 0 (aC ad st sz) := by
  refine Met.ofW (cc := cX7_isOtherSort) (maxL := 2) (ret := (some .boolean)) (by decide) rfl ?_
  intro p e s m args below meth c s₁ B hml hv
  obtain ⟨rfl, hsz, hw0, hK, hN, hZ, hC, hR, hL, hw1, hw2⟩ := hv
  have hx := B.exec
  have hb := B.bytes
  have hr := B.returns
  have hts := atoms_spec (ws := wq_X7_isOtherSort) B.pre
  have hown : s.vm.findClass RX7 = some m.cls := findClass_of_methodNamed B.named
  subst hsz
  have hp : Cp (dC, dI) ka ad ct (aC ad st s.heap.size) s.heap st s.heap [] := ⟨fun i a b => ⟨hw0 i a b, Or.inl ⟨i, a, b, rfl⟩⟩, va_S.rf, hw1, hw2⟩
  generalize hAe : aC ad st s.heap.size = A at hp hZ hC ⊢
  have hA : ∀ q : Nat, s.heap.size ≤ q → A q := fun q h => by rw [← hAe]; exact Or.inr h
  have hl := lv_entry ([va_rf (Option.map ad p0), va_rf (Option.map ad p1)]) (n := 2) (by simp [lg_sl, rf_cat, vc_i, vc_l, vc_r, vc_n])
  rw [lg_entry_eq]
  generalize (lg_sl ([va_rf (Option.map ad p0), va_rf (Option.map ad p1)]) ++ List.replicate (2 - (lg_sl ([va_rf (Option.map ad p0), va_rf (Option.map ad p1)])).length) Slot.unset).toArray = ls at hl ⊢
  have hl : lv_has ls 2 [(0, va_rf (Option.map ad p0)), (1, va_rf (Option.map ad p1))] := by simpa [lv_args, rf_cat, vc_i, vc_l, vc_r, vc_n] using hl
  unfold fX7_isOtherSort at hf
  refine o_aload_n hx hb dX7_isOtherSort_0 rfl (lv_at hl 1 rfl) ?_
  refine o_ifnull (tgt := 16) hx hb dX7_isOtherSort_1 (by decide) (fun c_1 => ?_) (fun c_1 => ?_)
  · have hf := pif_t c_1 hf
    refine lv_iconst (v := 0) hx hb dX7_isOtherSort_16 (by decide) ?_
    obtain ⟨e1, e2⟩ := pr_some hf
    exact W.zret (v := 0) hx hb hr rfl (fun t ht hW => ⟨⟨0, (), rfl, e1, Cp.end e2 hp ht⟩, hp.2.1.F ht⟩) hp.2.1.2.2 dX7_isOtherSort_17
  · have hf := pif_f c_1 hf
    refine o_aload_n hx hb dX7_isOtherSort_4 rfl (lv_at hl 1 rfl) ?_
    refine o_aload_n hx hb dX7_isOtherSort_5 rfl (lv_at hl 0 rfl) ?_
    obtain ⟨a_2, ha_3, hf⟩ := ono_some hf
    refine o_at1 ha_3 ?_
    obtain ⟨hk_4, hf⟩ := gd_some hf
    obtain ⟨r_7, st_5, hc_6, hf⟩ := bnd_some hf
    refine q_ci hp hA (va_runV (As := [va_rf (Option.map ad p0)]) (rest := []) ⟨hx, hb, hml, hown, hts⟩ (c_X0_isOtherSort l dC dI ka ad ct a_2 p0 _ _ _ hc_6 _) (cwV 1 hts gq_X7_isOtherSort_X0_isOtherSort_62 rfl rfl rfl (by decide +kernel) ⟨Nat.le_of_ble_eq_true rfl, Nat.le_of_ble_eq_true rfl⟩) ⟨PrC.blind _, q_rv2 hK hp hC hk_4, q_pre hp hK hN hZ hC hR hL hA⟩ rfl rfl hl.1 rfl (lv_room (Nat.le_of_ble_eq_true rfl)) dX7_isOtherSort_6 ⟨Nat.le_of_ble_eq_true rfl, Nat.le_of_ble_eq_true rfl⟩) (fun H locs hp => ?_)
    have hk_4 : qk st_5 a_2 = 3 := by rw [(mo_X0_isOtherSort a_2 p0 _ _ _ hc_6).2.2.1]; exact hk_4
    refine lv_if_eq (tgt := 16) hx hb dX7_isOtherSort_9 (by decide) (fun c_8 => ?_) (fun c_8 => ?_)
    · have hf := pif_t c_8 hf
      refine lv_iconst (v := 0) hx hb dX7_isOtherSort_16 (by decide) ?_
      obtain ⟨e1, e2⟩ := pr_some hf
      exact W.zret (v := 0) hx hb hr rfl (fun t ht hW => ⟨⟨0, (), rfl, e1, Cp.end e2 hp ht⟩, hp.2.1.F ht⟩) hp.2.1.2.2 dX7_isOtherSort_17
    · have hf := pif_f c_8 hf
      refine lv_iconst (v := 1) hx hb dX7_isOtherSort_12 (by decide) ?_
      refine lv_goto (tgt := 17) hx hb dX7_isOtherSort_13 (by decide) ?_
      obtain ⟨e1, e2⟩ := pr_some hf
      exact W.zret (v := 1) hx hb hr rfl (fun t ht hW => ⟨⟨1, (), rfl, e1, Cp.end e2 hp ht⟩, hp.2.1.F ht⟩) hp.2.1.2.2 dX7_isOtherSort_17
noncomputable def fX7_isNarrower (p0 : Option Nat) (p1 : Option Nat) (st : CS) : Option (Int32 × CS) := pif (p0 = none) (some ((0 : Int32), st)) (ono p0 (fun a_2 => gd (qk st a_2 = 3) (bnd (fX0_isNarrower a_2 p1 st) (fun r_7 st_5 => pif (r_7 = 0) (some ((0 : Int32), st_5)) (some ((1 : Int32), st_5))))))
set_option maxHeartbeats 1000000 in
theorem mo_X7_isNarrower (p0 : Option Nat) (p1 : Option Nat) (st : CS) (r : Int32) (st' : CS) (hf : fX7_isNarrower p0 p1 st = some (r, st')) : Ke st st' := by
  unfold fX7_isNarrower at hf
  have hm : Ke st st := Ke.rf
  rcases pif_or hf with ⟨c_1, hf⟩ | ⟨c_1, hf⟩
  · obtain ⟨e1, e2⟩ := pr_some hf
    exact e2 ▸ hm
  · obtain ⟨a_2, ha_3, hf⟩ := ono_some hf
    obtain ⟨hk_4, hf⟩ := gd_some hf
    obtain ⟨r_7, st_5, hc_6, hf⟩ := bnd_some hf
    have hm := hm.tr (mo_X0_isNarrower a_2 p1 _ _ _ hc_6)
    rcases pif_or hf with ⟨c_8, hf⟩ | ⟨c_8, hf⟩
    · obtain ⟨e1, e2⟩ := pr_some hf
      exact e2 ▸ hm
    · obtain ⟨e1, e2⟩ := pr_some hf
      exact e2 ▸ hm
def wq_X7_isNarrower : List Cond := .code yX7_isNarrower cX7_isNarrower 2 (some .boolean) :: (([.methodLink RX7 64 yX0_isNarrower, .instanceMethod yX0_isNarrower, .selects RX0 yX0_isNarrower yX0_isNarrower, .initialized RX0, .code yX0_isNarrower cX0_isNarrower 2 (some .boolean), .fieldLink RX0 15 "RecordBench$Field" "kind" "I", .methodLink RX0 51 yX0_isNumber, .instanceMethod yX0_isNumber, .selects RX0 yX0_isNumber yX0_isNumber, .code yX0_isNumber cX0_isNumber 1 (some .boolean)] : List Cond) ++ wsX00)
theorem gs_wq_X7_isNarrower_wsX00 : GoodIn wq_X7_isNarrower wsX00 := fun w h => ⟨List.mem_cons_of_mem _ (List.mem_append_right _ h), (gt_wsX00 w h).2⟩
set_option maxRecDepth 20000 in
theorem gq_X7_isNarrower_X0_isNarrower_64 : GoodIn wq_X7_isNarrower (wsV RX7 64 RX0 yX0_isNarrower wq_X0_isNarrower) := goodIn_app (goodIn_r _ [1, 2, 3, 4] rfl rfl) (goodIn_ca (goodIn_r _ [5, 6, 7, 8, 9, 4, 10] rfl rfl) gs_wq_X7_isNarrower_wsX00)
set_option maxHeartbeats 4000000 in
set_option maxRecDepth 100000 in
theorem c_X7_isNarrower (l : Launch) (dC : Nat → ClassId) (dI : Nat → Nat → Nat) (ka ad : Nat → Nat) (ct : Nat → ClassId) (p0 : Option Nat) (p1 : Option Nat) (st st' : CS) (r : Int32) (hf : fX7_isNarrower p0 p1 st = some (r, st')) (sz : Nat) : Met l yX7_isNarrower wq_X7_isNarrower ({ frames := 2, cells := 0, slots := 0, locals := 49 }) (va_Pc [va_rf (Option.map ad p0), va_rf (Option.map ad p1)] (PrC (dC, dI) ct ka ad st sz)) (va_Qi (fun r' (_ : Unit) => r' = r) (fun _ => CB (dC, dI) ct ka ad st' (aC ad st sz)) (aC ad st sz)) 0 0 (aC ad st sz) := by
  refine Met.ofW (cc := cX7_isNarrower) (maxL := 2) (ret := (some .boolean)) (by decide) rfl ?_
  intro p e s m args below meth c s₁ B hml hv
  obtain ⟨rfl, hsz, hw0, hK, hN, hZ, hC, hR, hL, hw1, hw2⟩ := hv
  have hx := B.exec
  have hb := B.bytes
  have hr := B.returns
  have hts := atoms_spec (ws := wq_X7_isNarrower) B.pre
  have hown : s.vm.findClass RX7 = some m.cls := findClass_of_methodNamed B.named
  subst hsz
  have hp : Cp (dC, dI) ka ad ct (aC ad st s.heap.size) s.heap st s.heap [] := ⟨fun i a b => ⟨hw0 i a b, Or.inl ⟨i, a, b, rfl⟩⟩, va_S.rf, hw1, hw2⟩
  generalize hAe : aC ad st s.heap.size = A at hp hZ hC ⊢
  have hA : ∀ q : Nat, s.heap.size ≤ q → A q := fun q h => by rw [← hAe]; exact Or.inr h
  have hl := lv_entry ([va_rf (Option.map ad p0), va_rf (Option.map ad p1)]) (n := 2) (by simp [lg_sl, rf_cat, vc_i, vc_l, vc_r, vc_n])
  rw [lg_entry_eq]
  generalize (lg_sl ([va_rf (Option.map ad p0), va_rf (Option.map ad p1)]) ++ List.replicate (2 - (lg_sl ([va_rf (Option.map ad p0), va_rf (Option.map ad p1)])).length) Slot.unset).toArray = ls at hl ⊢
  have hl : lv_has ls 2 [(0, va_rf (Option.map ad p0)), (1, va_rf (Option.map ad p1))] := by simpa [lv_args, rf_cat, vc_i, vc_l, vc_r, vc_n] using hl
  unfold fX7_isNarrower at hf
  refine o_aload_n hx hb dX7_isNarrower_0 rfl (lv_at hl 0 rfl) ?_
  refine o_ifnull (tgt := 16) hx hb dX7_isNarrower_1 (by decide) (fun c_1 => ?_) (fun c_1 => ?_)
  · have hf := pif_t c_1 hf
    refine lv_iconst (v := 0) hx hb dX7_isNarrower_16 (by decide) ?_
    obtain ⟨e1, e2⟩ := pr_some hf
    exact W.zret (v := 0) hx hb hr rfl (fun t ht hW => ⟨⟨0, (), rfl, e1, Cp.end e2 hp ht⟩, hp.2.1.F ht⟩) hp.2.1.2.2 dX7_isNarrower_17
  · have hf := pif_f c_1 hf
    refine o_aload_n hx hb dX7_isNarrower_4 rfl (lv_at hl 0 rfl) ?_
    refine o_aload_n hx hb dX7_isNarrower_5 rfl (lv_at hl 1 rfl) ?_
    obtain ⟨a_2, ha_3, hf⟩ := ono_some hf
    refine o_at1 ha_3 ?_
    obtain ⟨hk_4, hf⟩ := gd_some hf
    obtain ⟨r_7, st_5, hc_6, hf⟩ := bnd_some hf
    refine q_ci hp hA (va_runV (As := [va_rf (Option.map ad p1)]) (rest := []) ⟨hx, hb, hml, hown, hts⟩ (c_X0_isNarrower l dC dI ka ad ct a_2 p1 _ _ _ hc_6 _) (cwV 1 hts gq_X7_isNarrower_X0_isNarrower_64 rfl rfl rfl (by decide +kernel) ⟨Nat.le_of_ble_eq_true rfl, Nat.le_of_ble_eq_true rfl⟩) ⟨PrC.blind _, q_rv2 hK hp hC hk_4, q_pre hp hK hN hZ hC hR hL hA⟩ rfl rfl hl.1 rfl (lv_room (Nat.le_of_ble_eq_true rfl)) dX7_isNarrower_6 ⟨Nat.le_of_ble_eq_true rfl, Nat.le_of_ble_eq_true rfl⟩) (fun H locs hp => ?_)
    have hk_4 : qk st_5 a_2 = 3 := by rw [(mo_X0_isNarrower a_2 p1 _ _ _ hc_6).2.2.1]; exact hk_4
    refine lv_if_eq (tgt := 16) hx hb dX7_isNarrower_9 (by decide) (fun c_8 => ?_) (fun c_8 => ?_)
    · have hf := pif_t c_8 hf
      refine lv_iconst (v := 0) hx hb dX7_isNarrower_16 (by decide) ?_
      obtain ⟨e1, e2⟩ := pr_some hf
      exact W.zret (v := 0) hx hb hr rfl (fun t ht hW => ⟨⟨0, (), rfl, e1, Cp.end e2 hp ht⟩, hp.2.1.F ht⟩) hp.2.1.2.2 dX7_isNarrower_17
    · have hf := pif_f c_8 hf
      refine lv_iconst (v := 1) hx hb dX7_isNarrower_12 (by decide) ?_
      refine lv_goto (tgt := 17) hx hb dX7_isNarrower_13 (by decide) ?_
      obtain ⟨e1, e2⟩ := pr_some hf
      exact W.zret (v := 1) hx hb hr rfl (fun t ht hW => ⟨⟨1, (), rfl, e1, Cp.end e2 hp ht⟩, hp.2.1.F ht⟩) hp.2.1.2.2 dX7_isNarrower_17
noncomputable def fX7_isCrowded_18  : Nat → Option Nat → Option Nat → Option Nat → Option Nat → Int32 → CS → Option (Int32 × CS)
  | 0 => fun _ _ _ _ _ _ => none
  | n + 1 => fun l0 l1 l2 l3 l4 gs => ono l0 (fun a_1 => gd (qk gs a_1 = 3) (pif ((qI gs a_1 0) ≤ l4) (some ((0 : Int32), gs)) (ono l2 (fun a_5 => gd (qk gs a_5 = 4) (bnd (fX1_knownAt a_5 l4 gs) (fun r_10 st_8 => ono l1 (fun a_11 => gd (qk st_8 a_11 = 4) (bnd (fX1_knownAt a_11 l4 st_8) (fun r_16 st_14 => pif (r_10 = none) (nam (l4 + 1) (fun v_18 => (fX7_isCrowded_18 n) l0 l1 l2 l3 v_18 st_14)) (pif (r_16 = none) (nam (l4 + 1) (fun v_20 => (fX7_isCrowded_18 n) l0 l1 l2 l3 v_20 st_14)) (ono l3 (fun a_21 => gd (qk st_14 a_21 = 3) (bnd (fX0_sharesGroup a_21 r_10 st_14) (fun r_26 st_24 => pif (r_26 = 0) (nam (l4 + 1) (fun v_28 => (fX7_isCrowded_18 n) l0 l1 l2 l3 v_28 st_24)) (bnd (fX0_sharesGroup a_1 r_16 st_24) (fun r_31 st_29 => pif (r_31 = 0) (some ((1 : Int32), st_29)) (nam (l4 + 1) (fun v_33 => (fX7_isCrowded_18 n) l0 l1 l2 l3 v_33 st_29))))))))))))))))))
theorem fX7_isCrowded_18_z  (l0 : Option Nat) (l1 : Option Nat) (l2 : Option Nat) (l3 : Option Nat) (l4 : Int32) (gs : CS) : fX7_isCrowded_18 0 l0 l1 l2 l3 l4 gs = none := rfl
theorem fX7_isCrowded_18_s  (n : Nat) (l0 : Option Nat) (l1 : Option Nat) (l2 : Option Nat) (l3 : Option Nat) (l4 : Int32) (gs : CS) : fX7_isCrowded_18 (n + 1) l0 l1 l2 l3 l4 gs = ono l0 (fun a_1 => gd (qk gs a_1 = 3) (pif ((qI gs a_1 0) ≤ l4) (some ((0 : Int32), gs)) (ono l2 (fun a_5 => gd (qk gs a_5 = 4) (bnd (fX1_knownAt a_5 l4 gs) (fun r_10 st_8 => ono l1 (fun a_11 => gd (qk st_8 a_11 = 4) (bnd (fX1_knownAt a_11 l4 st_8) (fun r_16 st_14 => pif (r_10 = none) (nam (l4 + 1) (fun v_18 => (fX7_isCrowded_18 n) l0 l1 l2 l3 v_18 st_14)) (pif (r_16 = none) (nam (l4 + 1) (fun v_20 => (fX7_isCrowded_18 n) l0 l1 l2 l3 v_20 st_14)) (ono l3 (fun a_21 => gd (qk st_14 a_21 = 3) (bnd (fX0_sharesGroup a_21 r_10 st_14) (fun r_26 st_24 => pif (r_26 = 0) (nam (l4 + 1) (fun v_28 => (fX7_isCrowded_18 n) l0 l1 l2 l3 v_28 st_24)) (bnd (fX0_sharesGroup a_1 r_16 st_24) (fun r_31 st_29 => pif (r_31 = 0) (some ((1 : Int32), st_29)) (nam (l4 + 1) (fun v_33 => (fX7_isCrowded_18 n) l0 l1 l2 l3 v_33 st_29)))))))))))))))))) := rfl
set_option maxHeartbeats 1000000 in
theorem mo_X7_isCrowded_18   : ∀ (n : Nat) (l0 : Option Nat) (l1 : Option Nat) (l2 : Option Nat) (l3 : Option Nat) (l4 : Int32) (gs : CS) (r : Int32) (st' : CS), fX7_isCrowded_18 n l0 l1 l2 l3 l4 gs = some (r, st') → Ke gs st' := by
  intro n
  induction n with
  | zero =>
    intro l0 l1 l2 l3 l4 gs r st' hf
    rw [fX7_isCrowded_18_z] at hf
    cases hf
  | succ n ih =>
    intro l0 l1 l2 l3 l4 gs r st' hf
    rw [fX7_isCrowded_18_s] at hf
    have hm : Ke gs gs := Ke.rf
    obtain ⟨a_1, ha_2, hf⟩ := ono_some hf
    obtain ⟨hk_3, hf⟩ := gd_some hf
    rcases pif_or hf with ⟨c_4, hf⟩ | ⟨c_4, hf⟩
    · obtain ⟨e1, e2⟩ := pr_some hf
      exact e2 ▸ hm
    · obtain ⟨a_5, ha_6, hf⟩ := ono_some hf
      obtain ⟨hk_7, hf⟩ := gd_some hf
      obtain ⟨r_10, st_8, hc_9, hf⟩ := bnd_some hf
      have hm := hm.tr (mo_X1_knownAt a_5 l4 _ _ _ hc_9)
      obtain ⟨a_11, ha_12, hf⟩ := ono_some hf
      obtain ⟨hk_13, hf⟩ := gd_some hf
      obtain ⟨r_16, st_14, hc_15, hf⟩ := bnd_some hf
      have hm := hm.tr (mo_X1_knownAt a_11 l4 _ _ _ hc_15)
      rcases pif_or hf with ⟨c_17, hf⟩ | ⟨c_17, hf⟩
      · obtain ⟨v_18, ev_18, hf⟩ := nam_some hf
        exact hm.tr (ih l0 l1 l2 l3 v_18 st_14 _ _ hf)
      · rcases pif_or hf with ⟨c_19, hf⟩ | ⟨c_19, hf⟩
        · obtain ⟨v_20, ev_20, hf⟩ := nam_some hf
          exact hm.tr (ih l0 l1 l2 l3 v_20 st_14 _ _ hf)
        · obtain ⟨a_21, ha_22, hf⟩ := ono_some hf
          obtain ⟨hk_23, hf⟩ := gd_some hf
          obtain ⟨r_26, st_24, hc_25, hf⟩ := bnd_some hf
          have hm := hm.tr (mo_X0_sharesGroup a_21 r_10 _ _ _ hc_25)
          rcases pif_or hf with ⟨c_27, hf⟩ | ⟨c_27, hf⟩
          · obtain ⟨v_28, ev_28, hf⟩ := nam_some hf
            exact hm.tr (ih l0 l1 l2 l3 v_28 st_24 _ _ hf)
          · obtain ⟨r_31, st_29, hc_30, hf⟩ := bnd_some hf
            have hm := hm.tr (mo_X0_sharesGroup a_1 r_16 _ _ _ hc_30)
            rcases pif_or hf with ⟨c_32, hf⟩ | ⟨c_32, hf⟩
            · obtain ⟨e1, e2⟩ := pr_some hf
              exact e2 ▸ hm
            · obtain ⟨v_33, ev_33, hf⟩ := nam_some hf
              exact hm.tr (ih l0 l1 l2 l3 v_33 st_29 _ _ hf)
noncomputable def fX7_isCrowded (p0 : Option Nat) (p1 : Option Nat) (p2 : Option Nat) (st : CS) : Option (Int32 × CS) := ono p0 (fun a_34 => gd (qk st a_34 = 3) (ono p2 (fun a_37 => gd (qk st a_37 = 4) (bnd (fX1_knownAt a_37 (qI st a_34 0) st) (fun r_42 st_40 => pif (r_42 = none) (some ((0 : Int32), st_40)) (fX7_isCrowded_18 fuel p0 p1 p2 r_42 1 st_40))))))
set_option maxHeartbeats 1000000 in
theorem mo_X7_isCrowded (p0 : Option Nat) (p1 : Option Nat) (p2 : Option Nat) (st : CS) (r : Int32) (st' : CS) (hf : fX7_isCrowded p0 p1 p2 st = some (r, st')) : Ke st st' := by
  unfold fX7_isCrowded at hf
  have hm : Ke st st := Ke.rf
  obtain ⟨a_34, ha_35, hf⟩ := ono_some hf
  obtain ⟨hk_36, hf⟩ := gd_some hf
  obtain ⟨a_37, ha_38, hf⟩ := ono_some hf
  obtain ⟨hk_39, hf⟩ := gd_some hf
  obtain ⟨r_42, st_40, hc_41, hf⟩ := bnd_some hf
  have hm := hm.tr (mo_X1_knownAt a_37 (qI st a_34 0) _ _ _ hc_41)
  rcases pif_or hf with ⟨c_43, hf⟩ | ⟨c_43, hf⟩
  · obtain ⟨e1, e2⟩ := pr_some hf
    exact e2 ▸ hm
  · exact hm.tr (mo_X7_isCrowded_18 fuel p0 p1 p2 r_42 1 st_40 _ _ hf)
def wq_X7_isCrowded : List Cond := .code yX7_isCrowded cX7_isCrowded 7 (some .boolean) :: (([.methodLink RX7 31 yX1_knownAt, .instanceMethod yX1_knownAt, .selects RX1 yX1_knownAt yX1_knownAt, .initialized RX1, .methodLink RX7 69 yX0_sharesGroup, .instanceMethod yX0_sharesGroup, .selects RX0 yX0_sharesGroup yX0_sharesGroup, .initialized RX0, .code yX1_knownAt cX1_knownAt 3 (some (.object "RecordBench$Field")), .methodLink RX1 21 yX1_fieldAt, .instanceMethod yX1_fieldAt, .selects RX1 yX1_fieldAt yX1_fieldAt, .code yX1_fieldAt cX1_fieldAt 2 (some (.object "RecordBench$Field")), .fieldLink RX1 11 "RecordBench$Make" "fields" "[LRecordBench$Field;", .code yX0_sharesGroup cX0_sharesGroup 2 (some .boolean), .fieldLink RX0 18 "RecordBench$Field" "group" "I"] : List Cond) ++ wsX00 ++ wsX10)
theorem gs_wq_X7_isCrowded_wsX00 : GoodIn wq_X7_isCrowded wsX00 := fun w h => ⟨List.mem_cons_of_mem _ (List.mem_append_left _ (List.mem_append_right _ h)), (gt_wsX00 w h).2⟩
theorem gs_wq_X7_isCrowded_wsX10 : GoodIn wq_X7_isCrowded wsX10 := fun w h => ⟨List.mem_cons_of_mem _ (List.mem_append_right _ h), (gt_wsX10 w h).2⟩
set_option maxRecDepth 20000 in
theorem gq_X7_isCrowded_X1_knownAt_31 : GoodIn wq_X7_isCrowded (wsV RX7 31 RX1 yX1_knownAt wq_X1_knownAt) := goodIn_app (goodIn_r _ [1, 2, 3, 4] rfl rfl) (goodIn_ca (goodIn_ca (goodIn_r _ [9, 10, 11, 12, 4, 13, 14] rfl rfl) gs_wq_X7_isCrowded_wsX00) gs_wq_X7_isCrowded_wsX10)
set_option maxRecDepth 20000 in
theorem gq_X7_isCrowded_X0_sharesGroup_69 : GoodIn wq_X7_isCrowded (wsV RX7 69 RX0 yX0_sharesGroup wq_X0_sharesGroup) := goodIn_app (goodIn_r _ [5, 6, 7, 8] rfl rfl) (goodIn_ca (goodIn_r _ [15, 16] rfl rfl) gs_wq_X7_isCrowded_wsX00)
set_option maxHeartbeats 4000000 in
set_option maxRecDepth 100000 in
theorem c_X7_isCrowded (l : Launch) (dC : Nat → ClassId) (dI : Nat → Nat → Nat) (ka ad : Nat → Nat) (ct : Nat → ClassId) (p0 : Option Nat) (p1 : Option Nat) (p2 : Option Nat) (st st' : CS) (r : Int32) (hf : fX7_isCrowded p0 p1 p2 st = some (r, st')) (sz : Nat) : Met l yX7_isCrowded wq_X7_isCrowded ({ frames := 2, cells := 0, slots := 0, locals := 51 }) (va_Pc [va_rf (Option.map ad p0), va_rf (Option.map ad p1), va_rf (Option.map ad p2)] (PrC (dC, dI) ct ka ad st sz)) (va_Qi (fun r' (_ : Unit) => r' = r) (fun _ => CB (dC, dI) ct ka ad st' (aC ad st sz)) (aC ad st sz)) 0 0 (aC ad st sz) := by
  refine Met.ofW (cc := cX7_isCrowded) (maxL := 7) (ret := (some .boolean)) (by decide) rfl ?_
  intro p e s m args below meth c s₁ B hml hv
  obtain ⟨rfl, hsz, hw0, hK, hN, hZ, hC, hR, hL, hw1, hw2⟩ := hv
  have hx := B.exec
  have hb := B.bytes
  have hr := B.returns
  have hts := atoms_spec (ws := wq_X7_isCrowded) B.pre
  have hown : s.vm.findClass RX7 = some m.cls := findClass_of_methodNamed B.named
  have iRX0 : ∀ w ∈ u_ws RX0 TX0 7, w ∈ wq_X7_isCrowded := fun w h => List.mem_cons_of_mem _ (List.mem_append_left _ (List.mem_append_right _ h))
  subst hsz
  have hp : Cp (dC, dI) ka ad ct (aC ad st s.heap.size) s.heap st s.heap [] := ⟨fun i a b => ⟨hw0 i a b, Or.inl ⟨i, a, b, rfl⟩⟩, va_S.rf, hw1, hw2⟩
  generalize hAe : aC ad st s.heap.size = A at hp hZ hC ⊢
  have hA : ∀ q : Nat, s.heap.size ≤ q → A q := fun q h => by rw [← hAe]; exact Or.inr h
  have hl := lv_entry ([va_rf (Option.map ad p0), va_rf (Option.map ad p1), va_rf (Option.map ad p2)]) (n := 7) (by simp [lg_sl, rf_cat, vc_i, vc_l, vc_r, vc_n])
  rw [lg_entry_eq]
  generalize (lg_sl ([va_rf (Option.map ad p0), va_rf (Option.map ad p1), va_rf (Option.map ad p2)]) ++ List.replicate (7 - (lg_sl ([va_rf (Option.map ad p0), va_rf (Option.map ad p1), va_rf (Option.map ad p2)])).length) Slot.unset).toArray = ls at hl ⊢
  have hl : lv_has ls 7 [(0, va_rf (Option.map ad p0)), (1, va_rf (Option.map ad p1)), (2, va_rf (Option.map ad p2))] := by simpa [lv_args, rf_cat, vc_i, vc_l, vc_r, vc_n] using hl
  refine W_lp (fun n18 (u : (Option Nat) × (Option Nat) × (Option Nat) × (Option Nat) × Int32 × CS) H locs ls => match u with | (l0, l1, l2, l3, l4, gs) => fX7_isCrowded_18 n18 l0 l1 l2 l3 l4 gs = some (r, st') ∧ Cp (dC, dI) ka ad ct A s.heap gs H locs ∧ lv_has ls 7 [(0, va_rf (Option.map ad l0)), (1, va_rf (Option.map ad l1)), (2, va_rf (Option.map ad l2)), (3, va_rf (Option.map ad l3)), (4, .int l4)]) (fun (u : (Option Nat) × (Option Nat) × (Option Nat) × (Option Nat) × Int32 × CS) ls => match u with | (l0, l1, l2, l3, l4, gs) => F0 m 18 ls []) ?_ ?_ (fun J18 => ?_)
  · intro u H locs ls hu
    obtain ⟨l0, l1, l2, l3, l4, gs⟩ := u
    obtain ⟨hf, hp, hl⟩ := hu
    rw [fX7_isCrowded_18_z] at hf
    cases hf
  · intro n18 ih18 u H locs ls hu
    obtain ⟨l0, l1, l2, l3, l4, gs⟩ := u
    obtain ⟨hf, hp, hl⟩ := hu
    show W p l e _ s m _ below meth c _ _ _ _ _ (F0 m 18 ls [])
    rw [fX7_isCrowded_18_s] at hf
    refine lv_iload hx hb dX7_isCrowded_18 (lv_at hl 4 rfl) ?_
    refine o_aload_n hx hb dX7_isCrowded_20 rfl (lv_at hl 0 rfl) ?_
    obtain ⟨a_1, ha_2, hf⟩ := ono_some hf
    refine o_at ha_2 ?_
    obtain ⟨hk_3, hf⟩ := gd_some hf
    refine q_gi (ci := 2) (C := RX0) (T := TX0) (N := 7) (k := 0) hx hb hts iRX0 hown hK hp hk_3 (by decide) rfl rfl (by decide) rfl (Or.inr ⟨_, va_Nw.use rfl (hN.1 (.fieldLinkNest RX7 66 "RecordBench$Field" "number" "I" "RecordBench") (by decide +kernel))⟩) (fun _ h9 => h9) dX7_isCrowded_21 ?_
    refine lv_icmp_ge (tgt := 79) hx hb dX7_isCrowded_24 (by decide) (fun c_4 => ?_) (fun c_4 => ?_)
    · have hf := pif_t c_4 hf
      refine lv_iconst (v := 0) hx hb dX7_isCrowded_79 (by decide) ?_
      obtain ⟨e1, e2⟩ := pr_some hf
      exact W.zret (v := 0) hx hb hr rfl (fun t ht hW => ⟨⟨0, (), rfl, e1, Cp.end e2 hp ht⟩, hp.2.1.F ht⟩) hp.2.1.2.2 dX7_isCrowded_80
    · have hf := pif_f c_4 hf
      refine o_aload_n hx hb dX7_isCrowded_27 rfl (lv_at hl 2 rfl) ?_
      refine lv_iload hx hb dX7_isCrowded_28 (lv_at hl 4 rfl) ?_
      obtain ⟨a_5, ha_6, hf⟩ := ono_some hf
      refine o_at1 ha_6 ?_
      obtain ⟨hk_7, hf⟩ := gd_some hf
      obtain ⟨r_10, st_8, hc_9, hf⟩ := bnd_some hf
      refine q_cq hp hA (va_runV (As := [.int l4]) (rest := []) ⟨hx, hb, hml, hown, hts⟩ (c_X1_knownAt l dC dI ka ad ct a_5 l4 _ _ _ hc_9 _) (cwV 1 hts gq_X7_isCrowded_X1_knownAt_31 rfl rfl rfl (by decide +kernel) ⟨Nat.le_of_ble_eq_true rfl, Nat.le_of_ble_eq_true rfl⟩) ⟨PrC.blind _, q_rv3 hK hp hC hk_7, q_pre hp hK hN hZ hC hR hL hA⟩ rfl rfl hl.1 rfl (lv_room (Nat.le_of_ble_eq_true rfl)) dX7_isCrowded_30 ⟨Nat.le_of_ble_eq_true rfl, Nat.le_of_ble_eq_true rfl⟩) (fun H locs hp => ?_)
      have hk_3 : qk st_8 a_1 = 3 := by rw [(mo_X1_knownAt a_5 l4 _ _ _ hc_9).2.2.1]; exact hk_3
      have hk_7 : qk st_8 a_5 = 4 := by rw [(mo_X1_knownAt a_5 l4 _ _ _ hc_9).2.2.1]; exact hk_7
      refine o_astore (i := 5) (lv' := [(5, va_rf (Option.map ad r_10)), (0, va_rf (Option.map ad l0)), (1, va_rf (Option.map ad l1)), (2, va_rf (Option.map ad l2)), (3, va_rf (Option.map ad l3)), (4, .int l4)]) hx hb dX7_isCrowded_33 hl (by decide) rfl (fun ls hl => ?_)
      refine o_aload_n hx hb dX7_isCrowded_35 rfl (lv_at hl 2 rfl) ?_
      refine lv_iload hx hb dX7_isCrowded_36 (lv_at hl 5 rfl) ?_
      obtain ⟨a_11, ha_12, hf⟩ := ono_some hf
      refine o_at1 ha_12 ?_
      obtain ⟨hk_13, hf⟩ := gd_some hf
      obtain ⟨r_16, st_14, hc_15, hf⟩ := bnd_some hf
      refine q_cq hp hA (va_runV (As := [.int l4]) (rest := []) ⟨hx, hb, hml, hown, hts⟩ (c_X1_knownAt l dC dI ka ad ct a_11 l4 _ _ _ hc_15 _) (cwV 1 hts gq_X7_isCrowded_X1_knownAt_31 rfl rfl rfl (by decide +kernel) ⟨Nat.le_of_ble_eq_true rfl, Nat.le_of_ble_eq_true rfl⟩) ⟨PrC.blind _, q_rv3 hK hp hC hk_13, q_pre hp hK hN hZ hC hR hL hA⟩ rfl rfl hl.1 rfl (lv_room (Nat.le_of_ble_eq_true rfl)) dX7_isCrowded_38 ⟨Nat.le_of_ble_eq_true rfl, Nat.le_of_ble_eq_true rfl⟩) (fun H locs hp => ?_)
      have hk_3 : qk st_14 a_1 = 3 := by rw [(mo_X1_knownAt a_11 l4 _ _ _ hc_15).2.2.1]; exact hk_3
      have hk_7 : qk st_14 a_5 = 4 := by rw [(mo_X1_knownAt a_11 l4 _ _ _ hc_15).2.2.1]; exact hk_7
      have hk_13 : qk st_14 a_11 = 4 := by rw [(mo_X1_knownAt a_11 l4 _ _ _ hc_15).2.2.1]; exact hk_13
      refine o_astore (i := 6) (lv' := [(6, va_rf (Option.map ad r_16)), (5, va_rf (Option.map ad r_10)), (0, va_rf (Option.map ad l0)), (1, va_rf (Option.map ad l1)), (2, va_rf (Option.map ad l2)), (3, va_rf (Option.map ad l3)), (4, .int l4)]) hx hb dX7_isCrowded_41 hl (by decide) (by simp [rf_cat, vc_i, vc_l, vc_r, vc_n]) (fun ls hl => ?_)
      refine o_aload hx hb dX7_isCrowded_43 (lv_at hl 1 rfl) ?_
      refine o_ifnull (tgt := 73) hx hb dX7_isCrowded_45 (by decide) (fun c_17 => ?_) (fun c_17 => ?_)
      · have hf := pif_t c_17 hf
        obtain ⟨v_18, ev_18, hf⟩ := nam_some hf
        refine lv_iinc (v := v_18) (lv' := [(4, .int v_18), (6, va_rf (Option.map ad r_16)), (5, va_rf (Option.map ad r_10)), (0, va_rf (Option.map ad l0)), (1, va_rf (Option.map ad l1)), (2, va_rf (Option.map ad l2)), (3, va_rf (Option.map ad l3))]) hx hb dX7_isCrowded_73 hl (k := 6) rfl ev_18.symm (by decide) (by simp [rf_cat, vc_i, vc_l, vc_r, vc_n]) (fun ls hl => ?_)
        refine lv_goto (tgt := 18) hx hb dX7_isCrowded_76 (by decide) ?_
        exact ih18 (l0, l1, l2, l3, v_18, st_14) _ _ _ ⟨hf, hp, (lv_sub hl [3, 4, 5, 6, 0] rfl)⟩
      · have hf := pif_f c_17 hf
        refine o_aload hx hb dX7_isCrowded_48 (lv_at hl 0 rfl) ?_
        refine o_ifnull (tgt := 73) hx hb dX7_isCrowded_50 (by decide) (fun c_19 => ?_) (fun c_19 => ?_)
        · have hf := pif_t c_19 hf
          obtain ⟨v_20, ev_20, hf⟩ := nam_some hf
          refine lv_iinc (v := v_20) (lv' := [(4, .int v_20), (6, va_rf (Option.map ad r_16)), (5, va_rf (Option.map ad r_10)), (0, va_rf (Option.map ad l0)), (1, va_rf (Option.map ad l1)), (2, va_rf (Option.map ad l2)), (3, va_rf (Option.map ad l3))]) hx hb dX7_isCrowded_73 hl (k := 6) rfl ev_20.symm (by decide) (by simp [rf_cat, vc_i, vc_l, vc_r, vc_n]) (fun ls hl => ?_)
          refine lv_goto (tgt := 18) hx hb dX7_isCrowded_76 (by decide) ?_
          exact ih18 (l0, l1, l2, l3, v_20, st_14) _ _ _ ⟨hf, hp, (lv_sub hl [3, 4, 5, 6, 0] rfl)⟩
        · have hf := pif_f c_19 hf
          refine o_aload_n hx hb dX7_isCrowded_53 rfl (lv_at hl 5 rfl) ?_
          refine o_aload hx hb dX7_isCrowded_54 (lv_at hl 1 rfl) ?_
          obtain ⟨a_21, ha_22, hf⟩ := ono_some hf
          refine o_at1 ha_22 ?_
          obtain ⟨hk_23, hf⟩ := gd_some hf
          obtain ⟨r_26, st_24, hc_25, hf⟩ := bnd_some hf
          refine q_ci hp hA (va_runV (As := [va_rf (Option.map ad r_10)]) (rest := []) ⟨hx, hb, hml, hown, hts⟩ (c_X0_sharesGroup l dC dI ka ad ct a_21 r_10 _ _ _ hc_25 _) (cwV 1 hts gq_X7_isCrowded_X0_sharesGroup_69 rfl rfl rfl (by decide +kernel) ⟨Nat.le_of_ble_eq_true rfl, Nat.le_of_ble_eq_true rfl⟩) ⟨PrC.blind _, q_rv2 hK hp hC hk_23, q_pre hp hK hN hZ hC hR hL hA⟩ rfl rfl hl.1 rfl (lv_room (Nat.le_of_ble_eq_true rfl)) dX7_isCrowded_56 ⟨Nat.le_of_ble_eq_true rfl, Nat.le_of_ble_eq_true rfl⟩) (fun H locs hp => ?_)
          have hk_3 : qk st_24 a_1 = 3 := by rw [(mo_X0_sharesGroup a_21 r_10 _ _ _ hc_25).2.2.1]; exact hk_3
          have hk_7 : qk st_24 a_5 = 4 := by rw [(mo_X0_sharesGroup a_21 r_10 _ _ _ hc_25).2.2.1]; exact hk_7
          have hk_13 : qk st_24 a_11 = 4 := by rw [(mo_X0_sharesGroup a_21 r_10 _ _ _ hc_25).2.2.1]; exact hk_13
          have hk_23 : qk st_24 a_21 = 3 := by rw [(mo_X0_sharesGroup a_21 r_10 _ _ _ hc_25).2.2.1]; exact hk_23
          refine lv_if_eq (tgt := 73) hx hb dX7_isCrowded_59 (by decide) (fun c_27 => ?_) (fun c_27 => ?_)
          · have hf := pif_t c_27 hf
            obtain ⟨v_28, ev_28, hf⟩ := nam_some hf
            refine lv_iinc (v := v_28) (lv' := [(4, .int v_28), (6, va_rf (Option.map ad r_16)), (5, va_rf (Option.map ad r_10)), (0, va_rf (Option.map ad l0)), (1, va_rf (Option.map ad l1)), (2, va_rf (Option.map ad l2)), (3, va_rf (Option.map ad l3))]) hx hb dX7_isCrowded_73 hl (k := 6) rfl ev_28.symm (by decide) (by simp [rf_cat, vc_i, vc_l, vc_r, vc_n]) (fun ls hl => ?_)
            refine lv_goto (tgt := 18) hx hb dX7_isCrowded_76 (by decide) ?_
            exact ih18 (l0, l1, l2, l3, v_28, st_24) _ _ _ ⟨hf, hp, (lv_sub hl [3, 4, 5, 6, 0] rfl)⟩
          · have hf := pif_f c_27 hf
            refine o_aload_n hx hb dX7_isCrowded_62 rfl (lv_at hl 2 rfl) ?_
            refine o_aload hx hb dX7_isCrowded_63 (lv_at hl 0 rfl) ?_
            refine o_at1 ha_2 ?_
            obtain ⟨r_31, st_29, hc_30, hf⟩ := bnd_some hf
            refine q_ci hp hA (va_runV (As := [va_rf (Option.map ad r_16)]) (rest := []) ⟨hx, hb, hml, hown, hts⟩ (c_X0_sharesGroup l dC dI ka ad ct a_1 r_16 _ _ _ hc_30 _) (cwV 1 hts gq_X7_isCrowded_X0_sharesGroup_69 rfl rfl rfl (by decide +kernel) ⟨Nat.le_of_ble_eq_true rfl, Nat.le_of_ble_eq_true rfl⟩) ⟨PrC.blind _, q_rv2 hK hp hC hk_3, q_pre hp hK hN hZ hC hR hL hA⟩ rfl rfl hl.1 rfl (lv_room (Nat.le_of_ble_eq_true rfl)) dX7_isCrowded_65 ⟨Nat.le_of_ble_eq_true rfl, Nat.le_of_ble_eq_true rfl⟩) (fun H locs hp => ?_)
            have hk_3 : qk st_29 a_1 = 3 := by rw [(mo_X0_sharesGroup a_1 r_16 _ _ _ hc_30).2.2.1]; exact hk_3
            have hk_7 : qk st_29 a_5 = 4 := by rw [(mo_X0_sharesGroup a_1 r_16 _ _ _ hc_30).2.2.1]; exact hk_7
            have hk_13 : qk st_29 a_11 = 4 := by rw [(mo_X0_sharesGroup a_1 r_16 _ _ _ hc_30).2.2.1]; exact hk_13
            have hk_23 : qk st_29 a_21 = 3 := by rw [(mo_X0_sharesGroup a_1 r_16 _ _ _ hc_30).2.2.1]; exact hk_23
            refine lv_if_ne (tgt := 73) hx hb dX7_isCrowded_68 (by decide) (fun c_32 => ?_) (fun c_32 => ?_)
            · have hf := pif_f c_32 hf
              obtain ⟨v_33, ev_33, hf⟩ := nam_some hf
              refine lv_iinc (v := v_33) (lv' := [(4, .int v_33), (6, va_rf (Option.map ad r_16)), (5, va_rf (Option.map ad r_10)), (0, va_rf (Option.map ad l0)), (1, va_rf (Option.map ad l1)), (2, va_rf (Option.map ad l2)), (3, va_rf (Option.map ad l3))]) hx hb dX7_isCrowded_73 hl (k := 6) rfl ev_33.symm (by decide) (by simp [rf_cat, vc_i, vc_l, vc_r, vc_n]) (fun ls hl => ?_)
              refine lv_goto (tgt := 18) hx hb dX7_isCrowded_76 (by decide) ?_
              exact ih18 (l0, l1, l2, l3, v_33, st_29) _ _ _ ⟨hf, hp, (lv_sub hl [3, 4, 5, 6, 0] rfl)⟩
            · have hf := pif_t c_32 hf
              refine lv_iconst (v := 1) hx hb dX7_isCrowded_71 (by decide) ?_
              obtain ⟨e1, e2⟩ := pr_some hf
              exact W.zret (v := 1) hx hb hr rfl (fun t ht hW => ⟨⟨1, (), rfl, e1, Cp.end e2 hp ht⟩, hp.2.1.F ht⟩) hp.2.1.2.2 dX7_isCrowded_72
  unfold fX7_isCrowded at hf
  refine o_aload_n hx hb dX7_isCrowded_0 rfl (lv_at hl 2 rfl) ?_
  refine o_aload_n hx hb dX7_isCrowded_1 rfl (lv_at hl 0 rfl) ?_
  obtain ⟨a_34, ha_35, hf⟩ := ono_some hf
  refine o_at ha_35 ?_
  obtain ⟨hk_36, hf⟩ := gd_some hf
  refine q_gi (ci := 2) (C := RX0) (T := TX0) (N := 7) (k := 0) hx hb hts iRX0 hown hK hp hk_36 (by decide) rfl rfl (by decide) rfl (Or.inr ⟨_, va_Nw.use rfl (hN.1 (.fieldLinkNest RX7 66 "RecordBench$Field" "number" "I" "RecordBench") (by decide +kernel))⟩) (fun _ h9 => h9) dX7_isCrowded_2 ?_
  obtain ⟨a_37, ha_38, hf⟩ := ono_some hf
  refine o_at1 ha_38 ?_
  obtain ⟨hk_39, hf⟩ := gd_some hf
  obtain ⟨r_42, st_40, hc_41, hf⟩ := bnd_some hf
  refine q_cq hp hA (va_runV (As := [.int (qI st a_34 0)]) (rest := []) ⟨hx, hb, hml, hown, hts⟩ (c_X1_knownAt l dC dI ka ad ct a_37 (qI st a_34 0) _ _ _ hc_41 _) (cwV 1 hts gq_X7_isCrowded_X1_knownAt_31 rfl rfl rfl (by decide +kernel) ⟨Nat.le_of_ble_eq_true rfl, Nat.le_of_ble_eq_true rfl⟩) ⟨PrC.blind _, q_rv3 hK hp hC hk_39, q_pre hp hK hN hZ hC hR hL hA⟩ rfl rfl hl.1 rfl (lv_room (Nat.le_of_ble_eq_true rfl)) dX7_isCrowded_5 ⟨Nat.le_of_ble_eq_true rfl, Nat.le_of_ble_eq_true rfl⟩) (fun H locs hp => ?_)
  have hk_36 : qk st_40 a_34 = 3 := by rw [(mo_X1_knownAt a_37 (qI st a_34 0) _ _ _ hc_41).2.2.1]; exact hk_36
  have hk_39 : qk st_40 a_37 = 4 := by rw [(mo_X1_knownAt a_37 (qI st a_34 0) _ _ _ hc_41).2.2.1]; exact hk_39
  refine o_astore_n (i := 3) (lv' := [(3, va_rf (Option.map ad r_42)), (0, va_rf (Option.map ad p0)), (1, va_rf (Option.map ad p1)), (2, va_rf (Option.map ad p2))]) hx hb dX7_isCrowded_8 rfl hl (by decide) (by simp [rf_cat, vc_i, vc_l, vc_r, vc_n]) (fun ls hl => ?_)
  refine o_aload_n hx hb dX7_isCrowded_9 rfl (lv_at hl 0 rfl) ?_
  refine o_ifnonnull (tgt := 15) hx hb dX7_isCrowded_10 (by decide) (fun c_43 => ?_) (fun c_43 => ?_)
  · have hf := pif_f c_43 hf
    refine lv_iconst (v := 1) hx hb dX7_isCrowded_15 (by decide) ?_
    refine lv_istore (i := 4) (lv' := [(4, .int 1), (3, va_rf (Option.map ad r_42)), (0, va_rf (Option.map ad p0)), (1, va_rf (Option.map ad p1)), (2, va_rf (Option.map ad p2))]) hx hb dX7_isCrowded_16 hl (by decide) (by simp [rf_cat, vc_i, vc_l, vc_r, vc_n]) (fun ls hl => ?_)
    exact J18 fuel (p0, p1, p2, r_42, 1, st_40) _ _ _ ⟨hf, hp, (lv_sub hl [2, 3, 4, 1, 0] rfl)⟩
  · have hf := pif_t c_43 hf
    refine lv_iconst (v := 0) hx hb dX7_isCrowded_13 (by decide) ?_
    obtain ⟨e1, e2⟩ := pr_some hf
    exact W.zret (v := 0) hx hb hr rfl (fun t ht hW => ⟨⟨0, (), rfl, e1, Cp.end e2 hp ht⟩, hp.2.1.F ht⟩) hp.2.1.2.2 dX7_isCrowded_14
def wq_X7_breaks : List Cond := .code yX7_breaks cX7_breaks 11 (some .boolean) :: (([.fieldLink RX7 9 "RecordBench$Walks" "makes" "[LRecordBench$Make;", .fieldLink RX7 15 "RecordBench$Walks" "seen" "[I", .methodLink RX7 23 yX7_firstNumber, .instanceMethod yX7_firstNumber, .selects RX7 yX7_firstNumber yX7_firstNumber, .initialized RX7, .static yX8_makeOf, .initialized RX8, .code yX7_firstNumber cX7_firstNumber 7 (some .int), .methodLink RX7 27 yX7_whyBy, .instanceMethod yX7_whyBy, .selects RX7 yX7_whyBy yX7_whyBy, .code yX7_whyBy cX7_whyBy 10 (some .int), .methodLink RX7 50 yX7_isCrowded, .static yX7_isCrowded, .methodLink RX7 58 yX7_recBreaks, .instanceMethod yX7_recBreaks, .selects RX7 yX7_recBreaks yX7_recBreaks, .methodLink RX7 31 yX1_knownAt, .instanceMethod yX1_knownAt, .selects RX1 yX1_knownAt yX1_knownAt, .initialized RX1, .methodLink RX7 37 yX7_isOtherSort, .static yX7_isOtherSort, .methodLink RX7 41 yX7_isNarrower, .static yX7_isNarrower, .methodLink RX7 44 yX0_hasOtherDefault, .instanceMethod yX0_hasOtherDefault, .selects RX0 yX0_hasOtherDefault yX0_hasOtherDefault, .initialized RX0, .code yX7_isCrowded cX7_isCrowded 7 (some .boolean), .methodLink RX7 69 yX0_sharesGroup, .instanceMethod yX0_sharesGroup, .selects RX0 yX0_sharesGroup yX0_sharesGroup, .code yX1_knownAt cX1_knownAt 3 (some (.object "RecordBench$Field")), .methodLink RX1 21 yX1_fieldAt, .instanceMethod yX1_fieldAt, .selects RX1 yX1_fieldAt yX1_fieldAt, .code yX1_fieldAt cX1_fieldAt 2 (some (.object "RecordBench$Field")), .fieldLink RX1 11 "RecordBench$Make" "fields" "[LRecordBench$Field;", .code yX0_sharesGroup cX0_sharesGroup 2 (some .boolean), .fieldLink RX0 18 "RecordBench$Field" "group" "I", .code yX7_recBreaks cX7_recBreaks 8 (some .boolean), .methodLink RX7 75 yX7_breaks, .instanceMethod yX7_breaks, .selects RX7 yX7_breaks yX7_breaks, .code yX7_isOtherSort cX7_isOtherSort 2 (some .boolean), .methodLink RX7 62 yX0_isOtherSort, .instanceMethod yX0_isOtherSort, .selects RX0 yX0_isOtherSort yX0_isOtherSort, .code yX0_isOtherSort cX0_isOtherSort 2 (some .boolean), .fieldLink RX0 15 "RecordBench$Field" "kind" "I", .methodLink RX0 51 yX0_isNumber, .instanceMethod yX0_isNumber, .selects RX0 yX0_isNumber yX0_isNumber, .code yX0_isNumber cX0_isNumber 1 (some .boolean), .code yX7_isNarrower cX7_isNarrower 2 (some .boolean), .methodLink RX7 64 yX0_isNarrower, .instanceMethod yX0_isNarrower, .selects RX0 yX0_isNarrower yX0_isNarrower, .code yX0_isNarrower cX0_isNarrower 2 (some .boolean), .code yX0_hasOtherDefault cX0_hasOtherDefault 2 (some .boolean), .fieldLink RX0 33 "RecordBench$Field" "value" "J", .fieldLink RX0 30 "RecordBench$Field" "text" "Ljava/lang/String;", .methodLink RX0 55 yJ0_equals_9ea2d, .instanceMethod yJ0_equals_9ea2d, .selects RJ0 yJ0_equals_9ea2d yJ0_equals_9ea2d, .initialized RJ0, .code yJ0_equals_9ea2d cJ0_equals_9ea2d 3 (some .boolean), .classLink RJ0 10 "java/lang/String", .fieldLink RJ0 38 "java/lang/String" "COMPACT_STRINGS" "Z", .fieldLink RJ0 15 "java/lang/String" "coder" "B", .fieldLink RJ0 9 "java/lang/String" "value" "[B", .methodLink RJ0 541 yJ1_equals_b5fdf, .static yJ1_equals_b5fdf, .initialized RJ1, .code yJ1_equals_b5fdf cJ1_equals_b5fdf 3 (some .boolean), .code yX8_makeOf cX8_makeOf 2 (some (.object "RecordBench$Make"))] : List Cond) ++ wsX70 ++ wsX00 ++ wsX10 ++ wsJ00)
noncomputable def fX7_recBreaks_67 (h0 : Nat) (F : Nat → Int32 → Int32 → Int32 → Int32 → Int32 → CS → Option (Int32 × CS))  (l5 : Int32) (s0 : Int32) (s1 : Int32) (s2 : Int32) (s3 : Int32) (gs : CS) : Option (Int32 × CS) := gd (qk gs h0 = 10) (bnd (F h0 s3 s2 s1 s0 (l5 + 1) gs) (fun r_4 st_2 => gd (narrow .boolean (.int r_4) = .int r_4) (some (r_4, st_2))))
set_option maxHeartbeats 1000000 in
theorem mo_X7_recBreaks_67 (h0 : Nat) (F : Nat → Int32 → Int32 → Int32 → Int32 → Int32 → CS → Option (Int32 × CS))   (hFm : ∀ (h0 : Nat) (p0 : Int32) (p1 : Int32) (p2 : Int32) (p3 : Int32) (p4 : Int32) (st : CS) (r : Int32) (st' : CS), F h0 p0 p1 p2 p3 p4 st = some (r, st') → Ke st st') (l5 : Int32) (s0 : Int32) (s1 : Int32) (s2 : Int32) (s3 : Int32) (gs : CS) (r : Int32) (st' : CS) (hf : fX7_recBreaks_67 h0 F l5 s0 s1 s2 s3 gs = some (r, st')) : Ke gs st' := by
  unfold fX7_recBreaks_67 at hf
  have hm : Ke gs gs := Ke.rf
  obtain ⟨hk_1, hf⟩ := gd_some hf
  obtain ⟨r_4, st_2, hc_3, hf⟩ := bnd_some hf
  have hm := hm.tr (hFm h0 s3 s2 s1 s0 (l5 + 1) _ _ _ hc_3)
  obtain ⟨hz, hf⟩ := gd_some hf
  obtain ⟨e1, e2⟩ := pr_some hf
  exact e2 ▸ hm
noncomputable def fX7_recBreaks_66 (h0 : Nat) (F : Nat → Int32 → Int32 → Int32 → Int32 → Int32 → CS → Option (Int32 × CS))  (l5 : Int32) (s0 : Int32) (s1 : Int32) (s2 : Int32) (gs : CS) : Option (Int32 × CS) := fX7_recBreaks_67 h0 F l5 0 s0 s1 s2 gs
set_option maxHeartbeats 1000000 in
theorem mo_X7_recBreaks_66 (h0 : Nat) (F : Nat → Int32 → Int32 → Int32 → Int32 → Int32 → CS → Option (Int32 × CS))   (hFm : ∀ (h0 : Nat) (p0 : Int32) (p1 : Int32) (p2 : Int32) (p3 : Int32) (p4 : Int32) (st : CS) (r : Int32) (st' : CS), F h0 p0 p1 p2 p3 p4 st = some (r, st') → Ke st st') (l5 : Int32) (s0 : Int32) (s1 : Int32) (s2 : Int32) (gs : CS) (r : Int32) (st' : CS) (hf : fX7_recBreaks_66 h0 F l5 s0 s1 s2 gs = some (r, st')) : Ke gs st' := by
  unfold fX7_recBreaks_66 at hf
  have hm : Ke gs gs := Ke.rf
  exact hm.tr (mo_X7_recBreaks_67 h0 F hFm l5 0 s0 s1 s2 gs _ _ hf)
noncomputable def fX7_recBreaks_42 (h0 : Nat) (F : Nat → Int32 → Int32 → Int32 → Int32 → Int32 → CS → Option (Int32 × CS))  (l1 : Option Nat) (l3 : Option Nat) (l4 : Int32) (l5 : Int32) (l6 : Int32) (s0 : Int32) (gs : CS) : Option (Int32 × CS) := ono l1 (fun a_5 => gd (qk gs a_5 = 3) (pif (l4 = 0) (fX7_recBreaks_66 h0 F l5 s0 l6 (qI gs a_5 3) gs) (pif (l3 = none) (fX7_recBreaks_66 h0 F l5 s0 l6 (qI gs a_5 3) gs) (fX7_recBreaks_67 h0 F l5 1 s0 l6 (qI gs a_5 3) gs))))
set_option maxHeartbeats 1000000 in
theorem mo_X7_recBreaks_42 (h0 : Nat) (F : Nat → Int32 → Int32 → Int32 → Int32 → Int32 → CS → Option (Int32 × CS))   (hFm : ∀ (h0 : Nat) (p0 : Int32) (p1 : Int32) (p2 : Int32) (p3 : Int32) (p4 : Int32) (st : CS) (r : Int32) (st' : CS), F h0 p0 p1 p2 p3 p4 st = some (r, st') → Ke st st') (l1 : Option Nat) (l3 : Option Nat) (l4 : Int32) (l5 : Int32) (l6 : Int32) (s0 : Int32) (gs : CS) (r : Int32) (st' : CS) (hf : fX7_recBreaks_42 h0 F l1 l3 l4 l5 l6 s0 gs = some (r, st')) : Ke gs st' := by
  unfold fX7_recBreaks_42 at hf
  have hm : Ke gs gs := Ke.rf
  obtain ⟨a_5, ha_6, hf⟩ := ono_some hf
  obtain ⟨hk_7, hf⟩ := gd_some hf
  rcases pif_or hf with ⟨c_8, hf⟩ | ⟨c_8, hf⟩
  · exact hm.tr (mo_X7_recBreaks_66 h0 F hFm l5 s0 l6 (qI gs a_5 3) gs _ _ hf)
  · rcases pif_or hf with ⟨c_9, hf⟩ | ⟨c_9, hf⟩
    · exact hm.tr (mo_X7_recBreaks_66 h0 F hFm l5 s0 l6 (qI gs a_5 3) gs _ _ hf)
    · exact hm.tr (mo_X7_recBreaks_67 h0 F hFm l5 1 s0 l6 (qI gs a_5 3) gs _ _ hf)
noncomputable def fX7_recBreaks_25 (h0 : Nat) (F : Nat → Int32 → Int32 → Int32 → Int32 → Int32 → CS → Option (Int32 × CS))  (l1 : Option Nat) (l2 : Option Nat) (l3 : Option Nat) (l4 : Int32) (l5 : Int32) (s0 : Int32) (gs : CS) : Option (Int32 × CS) := pif (l3 = none) (ono l2 (fun a_11 => gd (qk gs a_11 = 3) (fX7_recBreaks_42 h0 F l1 l3 l4 l5 s0 (qI gs a_11 3) gs))) (ono l3 (fun a_14 => gd (qk gs a_14 = 3) (fX7_recBreaks_42 h0 F l1 l3 l4 l5 s0 (qI gs a_14 3) gs)))
set_option maxHeartbeats 1000000 in
theorem mo_X7_recBreaks_25 (h0 : Nat) (F : Nat → Int32 → Int32 → Int32 → Int32 → Int32 → CS → Option (Int32 × CS))   (hFm : ∀ (h0 : Nat) (p0 : Int32) (p1 : Int32) (p2 : Int32) (p3 : Int32) (p4 : Int32) (st : CS) (r : Int32) (st' : CS), F h0 p0 p1 p2 p3 p4 st = some (r, st') → Ke st st') (l1 : Option Nat) (l2 : Option Nat) (l3 : Option Nat) (l4 : Int32) (l5 : Int32) (s0 : Int32) (gs : CS) (r : Int32) (st' : CS) (hf : fX7_recBreaks_25 h0 F l1 l2 l3 l4 l5 s0 gs = some (r, st')) : Ke gs st' := by
  unfold fX7_recBreaks_25 at hf
  have hm : Ke gs gs := Ke.rf
  rcases pif_or hf with ⟨c_10, hf⟩ | ⟨c_10, hf⟩
  · obtain ⟨a_11, ha_12, hf⟩ := ono_some hf
    obtain ⟨hk_13, hf⟩ := gd_some hf
    exact hm.tr (mo_X7_recBreaks_42 h0 F hFm l1 l3 l4 l5 s0 (qI gs a_11 3) gs _ _ hf)
  · obtain ⟨a_14, ha_15, hf⟩ := ono_some hf
    obtain ⟨hk_16, hf⟩ := gd_some hf
    exact hm.tr (mo_X7_recBreaks_42 h0 F hFm l1 l3 l4 l5 s0 (qI gs a_14 3) gs _ _ hf)
noncomputable def fX7_recBreaks_10 (h0 : Nat) (F : Nat → Int32 → Int32 → Int32 → Int32 → Int32 → CS → Option (Int32 × CS))  (l1 : Option Nat) (l2 : Option Nat) (l3 : Option Nat) (l4 : Int32) (l5 : Int32) (gs : CS) : Option (Int32 × CS) := pif (l2 = none) (ono l3 (fun a_18 => gd (qk gs a_18 = 3) (fX7_recBreaks_25 h0 F l1 l2 l3 l4 l5 (qI gs a_18 3) gs))) (ono l2 (fun a_21 => gd (qk gs a_21 = 3) (fX7_recBreaks_25 h0 F l1 l2 l3 l4 l5 (qI gs a_21 3) gs)))
set_option maxHeartbeats 1000000 in
theorem mo_X7_recBreaks_10 (h0 : Nat) (F : Nat → Int32 → Int32 → Int32 → Int32 → Int32 → CS → Option (Int32 × CS))   (hFm : ∀ (h0 : Nat) (p0 : Int32) (p1 : Int32) (p2 : Int32) (p3 : Int32) (p4 : Int32) (st : CS) (r : Int32) (st' : CS), F h0 p0 p1 p2 p3 p4 st = some (r, st') → Ke st st') (l1 : Option Nat) (l2 : Option Nat) (l3 : Option Nat) (l4 : Int32) (l5 : Int32) (gs : CS) (r : Int32) (st' : CS) (hf : fX7_recBreaks_10 h0 F l1 l2 l3 l4 l5 gs = some (r, st')) : Ke gs st' := by
  unfold fX7_recBreaks_10 at hf
  have hm : Ke gs gs := Ke.rf
  rcases pif_or hf with ⟨c_17, hf⟩ | ⟨c_17, hf⟩
  · obtain ⟨a_18, ha_19, hf⟩ := ono_some hf
    obtain ⟨hk_20, hf⟩ := gd_some hf
    exact hm.tr (mo_X7_recBreaks_25 h0 F hFm l1 l2 l3 l4 l5 (qI gs a_18 3) gs _ _ hf)
  · obtain ⟨a_21, ha_22, hf⟩ := ono_some hf
    obtain ⟨hk_23, hf⟩ := gd_some hf
    exact hm.tr (mo_X7_recBreaks_25 h0 F hFm l1 l2 l3 l4 l5 (qI gs a_21 3) gs _ _ hf)
noncomputable def fX7_recBreaks (F : Nat → Int32 → Int32 → Int32 → Int32 → Int32 → CS → Option (Int32 × CS)) (h0 : Nat) (p0 : Option Nat) (p1 : Option Nat) (p2 : Option Nat) (p3 : Int32) (p4 : Int32) (st : CS) : Option (Int32 × CS) := pif (p1 = none) (pif (p2 = none) (some ((0 : Int32), st)) (fX7_recBreaks_10 h0 F p0 p1 p2 p3 p4 st)) (fX7_recBreaks_10 h0 F p0 p1 p2 p3 p4 st)
set_option maxHeartbeats 1000000 in
theorem mo_X7_recBreaks (F : Nat → Int32 → Int32 → Int32 → Int32 → Int32 → CS → Option (Int32 × CS)) (hFm : ∀ (h0 : Nat) (p0 : Int32) (p1 : Int32) (p2 : Int32) (p3 : Int32) (p4 : Int32) (st : CS) (r : Int32) (st' : CS), F h0 p0 p1 p2 p3 p4 st = some (r, st') → Ke st st') (h0 : Nat) (p0 : Option Nat) (p1 : Option Nat) (p2 : Option Nat) (p3 : Int32) (p4 : Int32) (st : CS) (r : Int32) (st' : CS) (hf : fX7_recBreaks F h0 p0 p1 p2 p3 p4 st = some (r, st')) : Ke st st' := by
  unfold fX7_recBreaks at hf
  have hm : Ke st st := Ke.rf
  rcases pif_or hf with ⟨c_24, hf⟩ | ⟨c_24, hf⟩
  · rcases pif_or hf with ⟨c_25, hf⟩ | ⟨c_25, hf⟩
    · obtain ⟨e1, e2⟩ := pr_some hf
      exact e2 ▸ hm
    · exact hm.tr (mo_X7_recBreaks_10 h0 F hFm p0 p1 p2 p3 p4 st _ _ hf)
  · exact hm.tr (mo_X7_recBreaks_10 h0 F hFm p0 p1 p2 p3 p4 st _ _ hf)
def wq_X7_recBreaks : List Cond := .code yX7_recBreaks cX7_recBreaks 8 (some .boolean) :: (([.methodLink RX7 75 yX7_breaks, .instanceMethod yX7_breaks, .selects RX7 yX7_breaks yX7_breaks, .initialized RX7, .code yX7_breaks cX7_breaks 11 (some .boolean), .fieldLink RX7 9 "RecordBench$Walks" "makes" "[LRecordBench$Make;", .fieldLink RX7 15 "RecordBench$Walks" "seen" "[I", .methodLink RX7 23 yX7_firstNumber, .instanceMethod yX7_firstNumber, .selects RX7 yX7_firstNumber yX7_firstNumber, .static yX8_makeOf, .initialized RX8, .code yX7_firstNumber cX7_firstNumber 7 (some .int), .methodLink RX7 27 yX7_whyBy, .instanceMethod yX7_whyBy, .selects RX7 yX7_whyBy yX7_whyBy, .code yX7_whyBy cX7_whyBy 10 (some .int), .methodLink RX7 50 yX7_isCrowded, .static yX7_isCrowded, .methodLink RX7 58 yX7_recBreaks, .instanceMethod yX7_recBreaks, .selects RX7 yX7_recBreaks yX7_recBreaks, .methodLink RX7 31 yX1_knownAt, .instanceMethod yX1_knownAt, .selects RX1 yX1_knownAt yX1_knownAt, .initialized RX1, .methodLink RX7 37 yX7_isOtherSort, .static yX7_isOtherSort, .methodLink RX7 41 yX7_isNarrower, .static yX7_isNarrower, .methodLink RX7 44 yX0_hasOtherDefault, .instanceMethod yX0_hasOtherDefault, .selects RX0 yX0_hasOtherDefault yX0_hasOtherDefault, .initialized RX0, .code yX7_isCrowded cX7_isCrowded 7 (some .boolean), .methodLink RX7 69 yX0_sharesGroup, .instanceMethod yX0_sharesGroup, .selects RX0 yX0_sharesGroup yX0_sharesGroup, .code yX1_knownAt cX1_knownAt 3 (some (.object "RecordBench$Field")), .methodLink RX1 21 yX1_fieldAt, .instanceMethod yX1_fieldAt, .selects RX1 yX1_fieldAt yX1_fieldAt, .code yX1_fieldAt cX1_fieldAt 2 (some (.object "RecordBench$Field")), .fieldLink RX1 11 "RecordBench$Make" "fields" "[LRecordBench$Field;", .code yX0_sharesGroup cX0_sharesGroup 2 (some .boolean), .fieldLink RX0 18 "RecordBench$Field" "group" "I", .code yX7_isOtherSort cX7_isOtherSort 2 (some .boolean), .methodLink RX7 62 yX0_isOtherSort, .instanceMethod yX0_isOtherSort, .selects RX0 yX0_isOtherSort yX0_isOtherSort, .code yX0_isOtherSort cX0_isOtherSort 2 (some .boolean), .fieldLink RX0 15 "RecordBench$Field" "kind" "I", .methodLink RX0 51 yX0_isNumber, .instanceMethod yX0_isNumber, .selects RX0 yX0_isNumber yX0_isNumber, .code yX0_isNumber cX0_isNumber 1 (some .boolean), .code yX7_isNarrower cX7_isNarrower 2 (some .boolean), .methodLink RX7 64 yX0_isNarrower, .instanceMethod yX0_isNarrower, .selects RX0 yX0_isNarrower yX0_isNarrower, .code yX0_isNarrower cX0_isNarrower 2 (some .boolean), .code yX0_hasOtherDefault cX0_hasOtherDefault 2 (some .boolean), .fieldLink RX0 33 "RecordBench$Field" "value" "J", .fieldLink RX0 30 "RecordBench$Field" "text" "Ljava/lang/String;", .methodLink RX0 55 yJ0_equals_9ea2d, .instanceMethod yJ0_equals_9ea2d, .selects RJ0 yJ0_equals_9ea2d yJ0_equals_9ea2d, .initialized RJ0, .code yJ0_equals_9ea2d cJ0_equals_9ea2d 3 (some .boolean), .classLink RJ0 10 "java/lang/String", .fieldLink RJ0 38 "java/lang/String" "COMPACT_STRINGS" "Z", .fieldLink RJ0 15 "java/lang/String" "coder" "B", .fieldLink RJ0 9 "java/lang/String" "value" "[B", .methodLink RJ0 541 yJ1_equals_b5fdf, .static yJ1_equals_b5fdf, .initialized RJ1, .code yJ1_equals_b5fdf cJ1_equals_b5fdf 3 (some .boolean), .code yX8_makeOf cX8_makeOf 2 (some (.object "RecordBench$Make"))] : List Cond) ++ wsX00 ++ wsX70 ++ wsX10 ++ wsJ00)
theorem gs_wq_X7_recBreaks_wsX70 : GoodIn wq_X7_recBreaks wsX70 := fun w h => ⟨List.mem_cons_of_mem _ (List.mem_append_left _ (List.mem_append_left _ (List.mem_append_right _ h))), (gt_wsX70 w h).2⟩
theorem gs_wq_X7_recBreaks_wsX00 : GoodIn wq_X7_recBreaks wsX00 := fun w h => ⟨List.mem_cons_of_mem _ (List.mem_append_left _ (List.mem_append_left _ (List.mem_append_left _ (List.mem_append_right _ h)))), (gt_wsX00 w h).2⟩
theorem gs_wq_X7_recBreaks_wsX10 : GoodIn wq_X7_recBreaks wsX10 := fun w h => ⟨List.mem_cons_of_mem _ (List.mem_append_left _ (List.mem_append_right _ h)), (gt_wsX10 w h).2⟩
theorem gs_wq_X7_recBreaks_wsJ00 : GoodIn wq_X7_recBreaks wsJ00 := fun w h => ⟨List.mem_cons_of_mem _ (List.mem_append_right _ h), (gt_wsJ00 w h).2⟩
set_option maxRecDepth 20000 in
theorem gq_X7_recBreaks_X7_breaks_75 : GoodIn wq_X7_recBreaks (wsV RX7 75 RX7 yX7_breaks wq_X7_breaks) := goodIn_app (goodIn_r _ [1, 2, 3, 4] rfl rfl) (goodIn_ca (goodIn_ca (goodIn_ca (goodIn_ca (goodIn_r _ [5, 6, 7, 8, 9, 10, 4, 11, 12, 13, 14, 15, 16, 17, 18, 19, 20, 21, 22, 23, 24, 25, 26, 27, 28, 29, 30, 31, 32, 33, 34, 35, 36, 37, 38, 39, 40, 41, 42, 43, 44, 45, 46, 0, 1, 2, 3, 47, 48, 49, 50, 51, 52, 53, 54, 55, 56, 57, 58, 59, 60, 61, 62, 63, 64, 65, 66, 67, 68, 69, 70, 71, 72, 73, 74, 75, 76, 77, 78] rfl rfl) gs_wq_X7_recBreaks_wsX70) gs_wq_X7_recBreaks_wsX00) gs_wq_X7_recBreaks_wsX10) gs_wq_X7_recBreaks_wsJ00)
set_option maxHeartbeats 4000000 in
set_option maxRecDepth 100000 in
theorem c_X7_recBreaks (l : Launch) (dC : Nat → ClassId) (dI : Nat → Nat → Nat) (ka ad : Nat → Nat) (ct : Nat → ClassId) (F : Nat → Int32 → Int32 → Int32 → Int32 → Int32 → CS → Option (Int32 × CS)) (hFm : ∀ (h0 : Nat) (p0 : Int32) (p1 : Int32) (p2 : Int32) (p3 : Int32) (p4 : Int32) (st : CS) (r : Int32) (st' : CS), F h0 p0 p1 p2 p3 p4 st = some (r, st') → Ke st st') (fr lo : Nat) (hF : ∀ (h0 : Nat) (p0 : Int32) (p1 : Int32) (p2 : Int32) (p3 : Int32) (p4 : Int32) (st st' : CS) (r : Int32) (hf : F h0 p0 p1 p2 p3 p4 st = some (r, st')) (sz : Nat), Met l yX7_breaks wq_X7_breaks ({ frames := fr, cells := 0, slots := 0, locals := lo }) (va_Pc [.ref (ad h0), .int p0, .int p1, .int p2, .int p3, .int p4] (PrC (dC, dI) ct ka ad st sz)) (va_Qi (fun r' (_ : Unit) => r' = r) (fun _ => CB (dC, dI) ct ka ad st' (aC ad st sz)) (aC ad st sz)) 0 0 (aC ad st sz)) (h0 : Nat) (p0 : Option Nat) (p1 : Option Nat) (p2 : Option Nat) (p3 : Int32) (p4 : Int32) (st st' : CS) (r : Int32) (hf : fX7_recBreaks F h0 p0 p1 p2 p3 p4 st = some (r, st')) (sz : Nat) : Met l yX7_recBreaks wq_X7_recBreaks ({ frames := fr + 1, cells := 0, slots := 0, locals := lo + 34 }) (va_Pc [.ref (ad h0), va_rf (Option.map ad p0), va_rf (Option.map ad p1), va_rf (Option.map ad p2), .int p3, .int p4] (PrC (dC, dI) ct ka ad st sz)) (va_Qi (fun r' (_ : Unit) => r' = r) (fun _ => CB (dC, dI) ct ka ad st' (aC ad st sz)) (aC ad st sz)) 0 0 (aC ad st sz) := by
  refine Met.ofW (cc := cX7_recBreaks) (maxL := 8) (ret := (some .boolean)) (by decide) rfl ?_
  intro p e s m args below meth c s₁ B hml hv
  obtain ⟨rfl, hsz, hw0, hK, hN, hZ, hC, hR, hL, hw1, hw2⟩ := hv
  have hx := B.exec
  have hb := B.bytes
  have hr := B.returns
  have hts := atoms_spec (ws := wq_X7_recBreaks) B.pre
  have hown : s.vm.findClass RX7 = some m.cls := findClass_of_methodNamed B.named
  have iRX0 : ∀ w ∈ u_ws RX0 TX0 7, w ∈ wq_X7_recBreaks := fun w h => List.mem_cons_of_mem _ (List.mem_append_left _ (List.mem_append_left _ (List.mem_append_left _ (List.mem_append_right _ h))))
  subst hsz
  have hp : Cp (dC, dI) ka ad ct (aC ad st s.heap.size) s.heap st s.heap [] := ⟨fun i a b => ⟨hw0 i a b, Or.inl ⟨i, a, b, rfl⟩⟩, va_S.rf, hw1, hw2⟩
  generalize hAe : aC ad st s.heap.size = A at hp hZ hC ⊢
  have hA : ∀ q : Nat, s.heap.size ≤ q → A q := fun q h => by rw [← hAe]; exact Or.inr h
  have hl := lv_entry ([.ref (ad h0), va_rf (Option.map ad p0), va_rf (Option.map ad p1), va_rf (Option.map ad p2), .int p3, .int p4]) (n := 8) (by simp [lg_sl, rf_cat, vc_i, vc_l, vc_r, vc_n])
  rw [lg_entry_eq]
  generalize (lg_sl ([.ref (ad h0), va_rf (Option.map ad p0), va_rf (Option.map ad p1), va_rf (Option.map ad p2), .int p3, .int p4]) ++ List.replicate (8 - (lg_sl ([.ref (ad h0), va_rf (Option.map ad p0), va_rf (Option.map ad p1), va_rf (Option.map ad p2), .int p3, .int p4])).length) Slot.unset).toArray = ls at hl ⊢
  have hl : lv_has ls 8 [(0, .ref (ad h0)), (1, va_rf (Option.map ad p0)), (2, va_rf (Option.map ad p1)), (3, va_rf (Option.map ad p2)), (4, .int p3), (5, .int p4)] := by simpa [lv_args, rf_cat, vc_i, vc_l, vc_r, vc_n] using hl
  refine W_blk (fun (u : Int32 × Int32 × Int32 × Int32 × Int32 × CS) H locs ls => match u with | (l5, s0, s1, s2, s3, gs) => fX7_recBreaks_67 h0 F l5 s0 s1 s2 s3 gs = some (r, st') ∧ Cp (dC, dI) ka ad ct A s.heap gs H locs ∧ lv_has ls 8 [(5, .int l5)]) (fun (u : Int32 × Int32 × Int32 × Int32 × Int32 × CS) ls => match u with | (l5, s0, s1, s2, s3, gs) => F0 m 67 ls [.int s0, .int s1, .int s2, .int s3, .ref (ad h0)]) ?_ (fun J67 => ?_)
  · intro u H locs ls hu
    obtain ⟨l5, s0, s1, s2, s3, gs⟩ := u
    obtain ⟨hf, hp, hl⟩ := hu
    show W p l e _ s m _ below meth c _ _ _ _ _ (F0 m 67 ls [.int s0, .int s1, .int s2, .int s3, .ref (ad h0)])
    unfold fX7_recBreaks_67 at hf
    refine lv_iload hx hb dX7_recBreaks_67 (lv_at hl 0 rfl) ?_
    refine lv_iconst (v := 1) hx hb dX7_recBreaks_69 (by decide) ?_
    refine lv_iadd hx hb dX7_recBreaks_70 ?_
    obtain ⟨hk_1, hf⟩ := gd_some hf
    obtain ⟨r_4, st_2, hc_3, hf⟩ := bnd_some hf
    refine q_ci hp hA (va_runV (As := [.int s3, .int s2, .int s1, .int s0, .int (l5 + 1)]) (rest := []) ⟨hx, hb, hml, hown, hts⟩ (hF h0 s3 s2 s1 s0 (l5 + 1) _ _ _ hc_3 _) (cwV 5 hts gq_X7_recBreaks_X7_breaks_75 rfl rfl rfl (by decide +kernel) ⟨by show fr + 1 ≤ fr + 1; omega, by show 8 + (11 + 11) + lo ≤ lo + 34; omega⟩) ⟨PrC.blind _, q_rv9 hK hp hC hk_1, q_pre hp hK hN hZ hC hR hL hA⟩ rfl rfl hl.1 rfl (lv_room (Nat.le_of_ble_eq_true rfl)) dX7_recBreaks_71 ⟨Nat.le_of_ble_eq_true rfl, Nat.le_of_ble_eq_true rfl⟩) (fun H locs hp => ?_)
    have hk_1 : qk st_2 h0 = 10 := by rw [(hFm h0 s3 s2 s1 s0 (l5 + 1) _ _ _ hc_3).2.2.1]; exact hk_1
    obtain ⟨hz, hf⟩ := gd_some hf
    obtain ⟨e1, e2⟩ := pr_some hf
    exact W.zret (v := r_4) hx hb hr hz (fun t ht hW => ⟨⟨r_4, (), rfl, e1, Cp.end e2 hp ht⟩, hp.2.1.F ht⟩) hp.2.1.2.2 dX7_recBreaks_74
  refine W_blk (fun (u : Int32 × Int32 × Int32 × Int32 × CS) H locs ls => match u with | (l5, s0, s1, s2, gs) => fX7_recBreaks_66 h0 F l5 s0 s1 s2 gs = some (r, st') ∧ Cp (dC, dI) ka ad ct A s.heap gs H locs ∧ lv_has ls 8 [(5, .int l5)]) (fun (u : Int32 × Int32 × Int32 × Int32 × CS) ls => match u with | (l5, s0, s1, s2, gs) => F0 m 66 ls [.int s0, .int s1, .int s2, .ref (ad h0)]) ?_ (fun J66 => ?_)
  · intro u H locs ls hu
    obtain ⟨l5, s0, s1, s2, gs⟩ := u
    obtain ⟨hf, hp, hl⟩ := hu
    show W p l e _ s m _ below meth c _ _ _ _ _ (F0 m 66 ls [.int s0, .int s1, .int s2, .ref (ad h0)])
    unfold fX7_recBreaks_66 at hf
    refine lv_iconst (v := 0) hx hb dX7_recBreaks_66 (by decide) ?_
    exact J67 (l5, 0, s0, s1, s2, gs) _ _ _ ⟨hf, hp, (lv_sub hl [0] rfl)⟩
  refine W_blk (fun (u : (Option Nat) × (Option Nat) × Int32 × Int32 × Int32 × Int32 × CS) H locs ls => match u with | (l1, l3, l4, l5, l6, s0, gs) => fX7_recBreaks_42 h0 F l1 l3 l4 l5 l6 s0 gs = some (r, st') ∧ Cp (dC, dI) ka ad ct A s.heap gs H locs ∧ lv_has ls 8 [(0, .ref (ad h0)), (1, va_rf (Option.map ad l1)), (3, va_rf (Option.map ad l3)), (4, .int l4), (5, .int l5), (6, .int l6)]) (fun (u : (Option Nat) × (Option Nat) × Int32 × Int32 × Int32 × Int32 × CS) ls => match u with | (l1, l3, l4, l5, l6, s0, gs) => F0 m 42 ls [.int s0]) ?_ (fun J42 => ?_)
  · intro u H locs ls hu
    obtain ⟨l1, l3, l4, l5, l6, s0, gs⟩ := u
    obtain ⟨hf, hp, hl⟩ := hu
    show W p l e _ s m _ below meth c _ _ _ _ _ (F0 m 42 ls [.int s0])
    unfold fX7_recBreaks_42 at hf
    refine lv_istore (i := 7) (lv' := [(7, .int s0), (0, .ref (ad h0)), (1, va_rf (Option.map ad l1)), (3, va_rf (Option.map ad l3)), (4, .int l4), (5, .int l5), (6, .int l6)]) hx hb dX7_recBreaks_42 hl (by decide) rfl (fun ls hl => ?_)
    refine lv_aload_n hx hb dX7_recBreaks_44 rfl (lv_at hl 1 rfl) ?_
    refine o_aload_n hx hb dX7_recBreaks_45 rfl (lv_at hl 2 rfl) ?_
    obtain ⟨a_5, ha_6, hf⟩ := ono_some hf
    refine o_at ha_6 ?_
    obtain ⟨hk_7, hf⟩ := gd_some hf
    refine q_gi (ci := 2) (C := RX0) (T := TX0) (N := 7) (k := 3) hx hb hts iRX0 hown hK hp hk_7 (by decide) rfl rfl (by decide) rfl (Or.inr ⟨_, va_Nw.use rfl (hN.1 (.fieldLinkNest RX7 72 "RecordBench$Field" "rec" "I" "RecordBench") (by decide +kernel))⟩) (fun _ h9 => h9) dX7_recBreaks_46 ?_
    refine lv_iload hx hb dX7_recBreaks_49 (lv_at hl 6 rfl) ?_
    refine lv_iload hx hb dX7_recBreaks_51 (lv_at hl 0 rfl) ?_
    refine lv_iload hx hb dX7_recBreaks_53 (lv_at hl 4 rfl) ?_
    refine lv_if_eq (tgt := 66) hx hb dX7_recBreaks_55 (by decide) (fun c_8 => ?_) (fun c_8 => ?_)
    · have hf := pif_t c_8 hf
      exact J66 (l5, s0, l6, (qI gs a_5 3), gs) _ _ _ ⟨hf, hp, (lv_sub hl [5] rfl)⟩
    · have hf := pif_f c_8 hf
      refine o_aload_n hx hb dX7_recBreaks_58 rfl (lv_at hl 3 rfl) ?_
      refine o_ifnull (tgt := 66) hx hb dX7_recBreaks_59 (by decide) (fun c_9 => ?_) (fun c_9 => ?_)
      · have hf := pif_t c_9 hf
        exact J66 (l5, s0, l6, (qI gs a_5 3), gs) _ _ _ ⟨hf, hp, (lv_sub hl [5] rfl)⟩
      · have hf := pif_f c_9 hf
        refine lv_iconst (v := 1) hx hb dX7_recBreaks_62 (by decide) ?_
        refine lv_goto (tgt := 67) hx hb dX7_recBreaks_63 (by decide) ?_
        exact J67 (l5, 1, s0, l6, (qI gs a_5 3), gs) _ _ _ ⟨hf, hp, (lv_sub hl [5] rfl)⟩
  refine W_blk (fun (u : (Option Nat) × (Option Nat) × (Option Nat) × Int32 × Int32 × Int32 × CS) H locs ls => match u with | (l1, l2, l3, l4, l5, s0, gs) => fX7_recBreaks_25 h0 F l1 l2 l3 l4 l5 s0 gs = some (r, st') ∧ Cp (dC, dI) ka ad ct A s.heap gs H locs ∧ lv_has ls 8 [(0, .ref (ad h0)), (1, va_rf (Option.map ad l1)), (2, va_rf (Option.map ad l2)), (3, va_rf (Option.map ad l3)), (4, .int l4), (5, .int l5)]) (fun (u : (Option Nat) × (Option Nat) × (Option Nat) × Int32 × Int32 × Int32 × CS) ls => match u with | (l1, l2, l3, l4, l5, s0, gs) => F0 m 25 ls [.int s0]) ?_ (fun J25 => ?_)
  · intro u H locs ls hu
    obtain ⟨l1, l2, l3, l4, l5, s0, gs⟩ := u
    obtain ⟨hf, hp, hl⟩ := hu
    show W p l e _ s m _ below meth c _ _ _ _ _ (F0 m 25 ls [.int s0])
    unfold fX7_recBreaks_25 at hf
    refine lv_istore (i := 6) (lv' := [(6, .int s0), (0, .ref (ad h0)), (1, va_rf (Option.map ad l1)), (2, va_rf (Option.map ad l2)), (3, va_rf (Option.map ad l3)), (4, .int l4), (5, .int l5)]) hx hb dX7_recBreaks_25 hl (by decide) rfl (fun ls hl => ?_)
    refine o_aload_n hx hb dX7_recBreaks_27 rfl (lv_at hl 4 rfl) ?_
    refine o_ifnull (tgt := 38) hx hb dX7_recBreaks_28 (by decide) (fun c_10 => ?_) (fun c_10 => ?_)
    · have hf := pif_t c_10 hf
      refine o_aload_n hx hb dX7_recBreaks_38 rfl (lv_at hl 3 rfl) ?_
      obtain ⟨a_11, ha_12, hf⟩ := ono_some hf
      refine o_at ha_12 ?_
      obtain ⟨hk_13, hf⟩ := gd_some hf
      refine q_gi (ci := 2) (C := RX0) (T := TX0) (N := 7) (k := 3) hx hb hts iRX0 hown hK hp hk_13 (by decide) rfl rfl (by decide) rfl (Or.inr ⟨_, va_Nw.use rfl (hN.1 (.fieldLinkNest RX7 72 "RecordBench$Field" "rec" "I" "RecordBench") (by decide +kernel))⟩) (fun _ h9 => h9) dX7_recBreaks_39 ?_
      exact J42 (l1, l3, l4, l5, s0, (qI gs a_11 3), gs) _ _ _ ⟨hf, hp, (lv_sub hl [1, 2, 4, 5, 6, 0] rfl)⟩
    · have hf := pif_f c_10 hf
      refine o_aload_n hx hb dX7_recBreaks_31 rfl (lv_at hl 4 rfl) ?_
      obtain ⟨a_14, ha_15, hf⟩ := ono_some hf
      refine o_at ha_15 ?_
      obtain ⟨hk_16, hf⟩ := gd_some hf
      refine q_gi (ci := 2) (C := RX0) (T := TX0) (N := 7) (k := 3) hx hb hts iRX0 hown hK hp hk_16 (by decide) rfl rfl (by decide) rfl (Or.inr ⟨_, va_Nw.use rfl (hN.1 (.fieldLinkNest RX7 72 "RecordBench$Field" "rec" "I" "RecordBench") (by decide +kernel))⟩) (fun _ h9 => h9) dX7_recBreaks_32 ?_
      refine lv_goto (tgt := 42) hx hb dX7_recBreaks_35 (by decide) ?_
      exact J42 (l1, l3, l4, l5, s0, (qI gs a_14 3), gs) _ _ _ ⟨hf, hp, (lv_sub hl [1, 2, 4, 5, 6, 0] rfl)⟩
  refine W_blk (fun (u : (Option Nat) × (Option Nat) × (Option Nat) × Int32 × Int32 × CS) H locs ls => match u with | (l1, l2, l3, l4, l5, gs) => fX7_recBreaks_10 h0 F l1 l2 l3 l4 l5 gs = some (r, st') ∧ Cp (dC, dI) ka ad ct A s.heap gs H locs ∧ lv_has ls 8 [(0, .ref (ad h0)), (1, va_rf (Option.map ad l1)), (2, va_rf (Option.map ad l2)), (3, va_rf (Option.map ad l3)), (4, .int l4), (5, .int l5)]) (fun (u : (Option Nat) × (Option Nat) × (Option Nat) × Int32 × Int32 × CS) ls => match u with | (l1, l2, l3, l4, l5, gs) => F0 m 10 ls []) ?_ (fun J10 => ?_)
  · intro u H locs ls hu
    obtain ⟨l1, l2, l3, l4, l5, gs⟩ := u
    obtain ⟨hf, hp, hl⟩ := hu
    show W p l e _ s m _ below meth c _ _ _ _ _ (F0 m 10 ls [])
    unfold fX7_recBreaks_10 at hf
    refine o_aload_n hx hb dX7_recBreaks_10 rfl (lv_at hl 2 rfl) ?_
    refine o_ifnull (tgt := 21) hx hb dX7_recBreaks_11 (by decide) (fun c_17 => ?_) (fun c_17 => ?_)
    · have hf := pif_t c_17 hf
      refine o_aload_n hx hb dX7_recBreaks_21 rfl (lv_at hl 3 rfl) ?_
      obtain ⟨a_18, ha_19, hf⟩ := ono_some hf
      refine o_at ha_19 ?_
      obtain ⟨hk_20, hf⟩ := gd_some hf
      refine q_gi (ci := 2) (C := RX0) (T := TX0) (N := 7) (k := 3) hx hb hts iRX0 hown hK hp hk_20 (by decide) rfl rfl (by decide) rfl (Or.inr ⟨_, va_Nw.use rfl (hN.1 (.fieldLinkNest RX7 72 "RecordBench$Field" "rec" "I" "RecordBench") (by decide +kernel))⟩) (fun _ h9 => h9) dX7_recBreaks_22 ?_
      exact J25 (l1, l2, l3, l4, l5, (qI gs a_18 3), gs) _ _ _ ⟨hf, hp, (lv_sub hl [0, 1, 2, 3, 4, 5] rfl)⟩
    · have hf := pif_f c_17 hf
      refine o_aload_n hx hb dX7_recBreaks_14 rfl (lv_at hl 2 rfl) ?_
      obtain ⟨a_21, ha_22, hf⟩ := ono_some hf
      refine o_at ha_22 ?_
      obtain ⟨hk_23, hf⟩ := gd_some hf
      refine q_gi (ci := 2) (C := RX0) (T := TX0) (N := 7) (k := 3) hx hb hts iRX0 hown hK hp hk_23 (by decide) rfl rfl (by decide) rfl (Or.inr ⟨_, va_Nw.use rfl (hN.1 (.fieldLinkNest RX7 72 "RecordBench$Field" "rec" "I" "RecordBench") (by decide +kernel))⟩) (fun _ h9 => h9) dX7_recBreaks_15 ?_
      refine lv_goto (tgt := 25) hx hb dX7_recBreaks_18 (by decide) ?_
      exact J25 (l1, l2, l3, l4, l5, (qI gs a_21 3), gs) _ _ _ ⟨hf, hp, (lv_sub hl [0, 1, 2, 3, 4, 5] rfl)⟩
  unfold fX7_recBreaks at hf
  refine o_aload_n hx hb dX7_recBreaks_0 rfl (lv_at hl 2 rfl) ?_
  refine o_ifnonnull (tgt := 10) hx hb dX7_recBreaks_1 (by decide) (fun c_24 => ?_) (fun c_24 => ?_)
  · have hf := pif_f c_24 hf
    exact J10 (p0, p1, p2, p3, p4, st) _ _ _ ⟨hf, hp, (lv_sub hl [0, 1, 2, 3, 4, 5] rfl)⟩
  · have hf := pif_t c_24 hf
    refine o_aload_n hx hb dX7_recBreaks_4 rfl (lv_at hl 3 rfl) ?_
    refine o_ifnonnull (tgt := 10) hx hb dX7_recBreaks_5 (by decide) (fun c_25 => ?_) (fun c_25 => ?_)
    · have hf := pif_f c_25 hf
      exact J10 (p0, p1, p2, p3, p4, st) _ _ _ ⟨hf, hp, (lv_sub hl [0, 1, 2, 3, 4, 5] rfl)⟩
    · have hf := pif_t c_25 hf
      refine lv_iconst (v := 0) hx hb dX7_recBreaks_8 (by decide) ?_
      obtain ⟨e1, e2⟩ := pr_some hf
      exact W.zret (v := 0) hx hb hr rfl (fun t ht hW => ⟨⟨0, (), rfl, e1, Cp.end e2 hp ht⟩, hp.2.1.F ht⟩) hp.2.1.2.2 dX7_recBreaks_9
noncomputable def fX7_whyBy_95 (h0 : Nat) (F : Nat → Int32 → Int32 → Int32 → Int32 → Int32 → CS → Option (Int32 × CS))  (l2 : Option Nat) (l3 : Option Nat) (l4 : Option Nat) (l5 : Int32) (l6 : Int32) (l7 : Option Nat) (l8 : Option Nat) (l9 : Option Nat) (gs : CS) : Option (Int32 × CS) := bnd (fX7_isCrowded l7 l2 l3 gs) (fun r_3 st_1 => pif (r_3 = 0) (bnd (fX7_isCrowded l7 l2 l4 st_1) (fun r_7 st_5 => pif (r_7 = 0) (ono l7 (fun a_9 => gd (qk st_5 a_9 = 3) (pif ((qI st_5 a_9 1) = 6) (gd (qk st_5 h0 = 10) (bnd (fX7_recBreaks F h0 l7 l8 l9 l5 l6 st_5) (fun r_16 st_14 => pif (r_16 = 0) (some ((0 : Int32), st_14)) (some ((5 : Int32), st_14))))) (some ((0 : Int32), st_5))))) (some ((4 : Int32), st_5)))) (some ((4 : Int32), st_1)))
set_option maxHeartbeats 1000000 in
theorem mo_X7_whyBy_95 (h0 : Nat) (F : Nat → Int32 → Int32 → Int32 → Int32 → Int32 → CS → Option (Int32 × CS))   (hFm : ∀ (h0 : Nat) (p0 : Int32) (p1 : Int32) (p2 : Int32) (p3 : Int32) (p4 : Int32) (st : CS) (r : Int32) (st' : CS), F h0 p0 p1 p2 p3 p4 st = some (r, st') → Ke st st') (l2 : Option Nat) (l3 : Option Nat) (l4 : Option Nat) (l5 : Int32) (l6 : Int32) (l7 : Option Nat) (l8 : Option Nat) (l9 : Option Nat) (gs : CS) (r : Int32) (st' : CS) (hf : fX7_whyBy_95 h0 F l2 l3 l4 l5 l6 l7 l8 l9 gs = some (r, st')) : Ke gs st' := by
  unfold fX7_whyBy_95 at hf
  have hm : Ke gs gs := Ke.rf
  obtain ⟨r_3, st_1, hc_2, hf⟩ := bnd_some hf
  have hm := hm.tr (mo_X7_isCrowded l7 l2 l3 _ _ _ hc_2)
  rcases pif_or hf with ⟨c_4, hf⟩ | ⟨c_4, hf⟩
  · obtain ⟨r_7, st_5, hc_6, hf⟩ := bnd_some hf
    have hm := hm.tr (mo_X7_isCrowded l7 l2 l4 _ _ _ hc_6)
    rcases pif_or hf with ⟨c_8, hf⟩ | ⟨c_8, hf⟩
    · obtain ⟨a_9, ha_10, hf⟩ := ono_some hf
      obtain ⟨hk_11, hf⟩ := gd_some hf
      rcases pif_or hf with ⟨c_12, hf⟩ | ⟨c_12, hf⟩
      · obtain ⟨hk_13, hf⟩ := gd_some hf
        obtain ⟨r_16, st_14, hc_15, hf⟩ := bnd_some hf
        have hm := hm.tr (mo_X7_recBreaks F hFm h0 l7 l8 l9 l5 l6 _ _ _ hc_15)
        rcases pif_or hf with ⟨c_17, hf⟩ | ⟨c_17, hf⟩
        · obtain ⟨e1, e2⟩ := pr_some hf
          exact e2 ▸ hm
        · obtain ⟨e1, e2⟩ := pr_some hf
          exact e2 ▸ hm
      · obtain ⟨e1, e2⟩ := pr_some hf
        exact e2 ▸ hm
    · obtain ⟨e1, e2⟩ := pr_some hf
      exact e2 ▸ hm
  · obtain ⟨e1, e2⟩ := pr_some hf
    exact e2 ▸ hm
noncomputable def fX7_whyBy (F : Nat → Int32 → Int32 → Int32 → Int32 → Int32 → CS → Option (Int32 × CS)) (h0 : Nat) (p0 : Int32) (p1 : Option Nat) (p2 : Option Nat) (p3 : Option Nat) (p4 : Int32) (p5 : Int32) (st : CS) : Option (Int32 × CS) := ono p1 (fun a_18 => gd (qk st a_18 = 4) (bnd (fX1_knownAt a_18 p0 st) (fun r_23 st_21 => pif (r_23 = none) (some ((0 : Int32), st_21)) (ono p2 (fun a_25 => gd (qk st_21 a_25 = 4) (bnd (fX1_knownAt a_25 p0 st_21) (fun r_30 st_28 => ono p3 (fun a_31 => gd (qk st_28 a_31 = 4) (bnd (fX1_knownAt a_31 p0 st_28) (fun r_36 st_34 => bnd (fX7_isOtherSort r_23 r_30 st_34) (fun r_39 st_37 => pif (r_39 = 0) (bnd (fX7_isOtherSort r_23 r_36 st_37) (fun r_43 st_41 => pif (r_43 = 0) (bnd (fX7_isNarrower r_30 r_23 st_41) (fun r_47 st_45 => pif (r_47 = 0) (bnd (fX7_isNarrower r_36 r_23 st_45) (fun r_51 st_49 => pif (r_51 = 0) (pif (p4 = 0) (fX7_whyBy_95 h0 F p1 p2 p3 p4 p5 r_23 r_30 r_36 st_49) (pif (r_36 = none) (fX7_whyBy_95 h0 F p1 p2 p3 p4 p5 r_23 r_30 r_36 st_49) (ono r_36 (fun a_55 => gd (qk st_49 a_55 = 3) (bnd (fX0_hasOtherDefault a_55 r_23 st_49) (fun r_60 st_58 => pif (r_60 = 0) (fX7_whyBy_95 h0 F p1 p2 p3 p4 p5 r_23 r_30 r_36 st_58) (some ((3 : Int32), st_58)))))))) (some ((2 : Int32), st_49)))) (some ((2 : Int32), st_45)))) (some ((1 : Int32), st_41)))) (some ((1 : Int32), st_37)))))))))))))
set_option maxHeartbeats 1000000 in
theorem mo_X7_whyBy (F : Nat → Int32 → Int32 → Int32 → Int32 → Int32 → CS → Option (Int32 × CS)) (hFm : ∀ (h0 : Nat) (p0 : Int32) (p1 : Int32) (p2 : Int32) (p3 : Int32) (p4 : Int32) (st : CS) (r : Int32) (st' : CS), F h0 p0 p1 p2 p3 p4 st = some (r, st') → Ke st st') (h0 : Nat) (p0 : Int32) (p1 : Option Nat) (p2 : Option Nat) (p3 : Option Nat) (p4 : Int32) (p5 : Int32) (st : CS) (r : Int32) (st' : CS) (hf : fX7_whyBy F h0 p0 p1 p2 p3 p4 p5 st = some (r, st')) : Ke st st' := by
  unfold fX7_whyBy at hf
  have hm : Ke st st := Ke.rf
  obtain ⟨a_18, ha_19, hf⟩ := ono_some hf
  obtain ⟨hk_20, hf⟩ := gd_some hf
  obtain ⟨r_23, st_21, hc_22, hf⟩ := bnd_some hf
  have hm := hm.tr (mo_X1_knownAt a_18 p0 _ _ _ hc_22)
  rcases pif_or hf with ⟨c_24, hf⟩ | ⟨c_24, hf⟩
  · obtain ⟨e1, e2⟩ := pr_some hf
    exact e2 ▸ hm
  · obtain ⟨a_25, ha_26, hf⟩ := ono_some hf
    obtain ⟨hk_27, hf⟩ := gd_some hf
    obtain ⟨r_30, st_28, hc_29, hf⟩ := bnd_some hf
    have hm := hm.tr (mo_X1_knownAt a_25 p0 _ _ _ hc_29)
    obtain ⟨a_31, ha_32, hf⟩ := ono_some hf
    obtain ⟨hk_33, hf⟩ := gd_some hf
    obtain ⟨r_36, st_34, hc_35, hf⟩ := bnd_some hf
    have hm := hm.tr (mo_X1_knownAt a_31 p0 _ _ _ hc_35)
    obtain ⟨r_39, st_37, hc_38, hf⟩ := bnd_some hf
    have hm := hm.tr (mo_X7_isOtherSort r_23 r_30 _ _ _ hc_38)
    rcases pif_or hf with ⟨c_40, hf⟩ | ⟨c_40, hf⟩
    · obtain ⟨r_43, st_41, hc_42, hf⟩ := bnd_some hf
      have hm := hm.tr (mo_X7_isOtherSort r_23 r_36 _ _ _ hc_42)
      rcases pif_or hf with ⟨c_44, hf⟩ | ⟨c_44, hf⟩
      · obtain ⟨r_47, st_45, hc_46, hf⟩ := bnd_some hf
        have hm := hm.tr (mo_X7_isNarrower r_30 r_23 _ _ _ hc_46)
        rcases pif_or hf with ⟨c_48, hf⟩ | ⟨c_48, hf⟩
        · obtain ⟨r_51, st_49, hc_50, hf⟩ := bnd_some hf
          have hm := hm.tr (mo_X7_isNarrower r_36 r_23 _ _ _ hc_50)
          rcases pif_or hf with ⟨c_52, hf⟩ | ⟨c_52, hf⟩
          · rcases pif_or hf with ⟨c_53, hf⟩ | ⟨c_53, hf⟩
            · exact hm.tr (mo_X7_whyBy_95 h0 F hFm p1 p2 p3 p4 p5 r_23 r_30 r_36 st_49 _ _ hf)
            · rcases pif_or hf with ⟨c_54, hf⟩ | ⟨c_54, hf⟩
              · exact hm.tr (mo_X7_whyBy_95 h0 F hFm p1 p2 p3 p4 p5 r_23 r_30 r_36 st_49 _ _ hf)
              · obtain ⟨a_55, ha_56, hf⟩ := ono_some hf
                obtain ⟨hk_57, hf⟩ := gd_some hf
                obtain ⟨r_60, st_58, hc_59, hf⟩ := bnd_some hf
                have hm := hm.tr (mo_X0_hasOtherDefault a_55 r_23 _ _ _ hc_59)
                rcases pif_or hf with ⟨c_61, hf⟩ | ⟨c_61, hf⟩
                · exact hm.tr (mo_X7_whyBy_95 h0 F hFm p1 p2 p3 p4 p5 r_23 r_30 r_36 st_58 _ _ hf)
                · obtain ⟨e1, e2⟩ := pr_some hf
                  exact e2 ▸ hm
          · obtain ⟨e1, e2⟩ := pr_some hf
            exact e2 ▸ hm
        · obtain ⟨e1, e2⟩ := pr_some hf
          exact e2 ▸ hm
      · obtain ⟨e1, e2⟩ := pr_some hf
        exact e2 ▸ hm
    · obtain ⟨e1, e2⟩ := pr_some hf
      exact e2 ▸ hm
def wq_X7_whyBy : List Cond := .code yX7_whyBy cX7_whyBy 10 (some .int) :: (([.methodLink RX7 50 yX7_isCrowded, .static yX7_isCrowded, .initialized RX7, .methodLink RX7 58 yX7_recBreaks, .instanceMethod yX7_recBreaks, .selects RX7 yX7_recBreaks yX7_recBreaks, .methodLink RX7 31 yX1_knownAt, .instanceMethod yX1_knownAt, .selects RX1 yX1_knownAt yX1_knownAt, .initialized RX1, .methodLink RX7 37 yX7_isOtherSort, .static yX7_isOtherSort, .methodLink RX7 41 yX7_isNarrower, .static yX7_isNarrower, .methodLink RX7 44 yX0_hasOtherDefault, .instanceMethod yX0_hasOtherDefault, .selects RX0 yX0_hasOtherDefault yX0_hasOtherDefault, .initialized RX0, .code yX7_isCrowded cX7_isCrowded 7 (some .boolean), .methodLink RX7 69 yX0_sharesGroup, .instanceMethod yX0_sharesGroup, .selects RX0 yX0_sharesGroup yX0_sharesGroup, .code yX1_knownAt cX1_knownAt 3 (some (.object "RecordBench$Field")), .methodLink RX1 21 yX1_fieldAt, .instanceMethod yX1_fieldAt, .selects RX1 yX1_fieldAt yX1_fieldAt, .code yX1_fieldAt cX1_fieldAt 2 (some (.object "RecordBench$Field")), .fieldLink RX1 11 "RecordBench$Make" "fields" "[LRecordBench$Field;", .code yX0_sharesGroup cX0_sharesGroup 2 (some .boolean), .fieldLink RX0 18 "RecordBench$Field" "group" "I", .code yX7_recBreaks cX7_recBreaks 8 (some .boolean), .methodLink RX7 75 yX7_breaks, .instanceMethod yX7_breaks, .selects RX7 yX7_breaks yX7_breaks, .code yX7_breaks cX7_breaks 11 (some .boolean), .fieldLink RX7 9 "RecordBench$Walks" "makes" "[LRecordBench$Make;", .fieldLink RX7 15 "RecordBench$Walks" "seen" "[I", .methodLink RX7 23 yX7_firstNumber, .instanceMethod yX7_firstNumber, .selects RX7 yX7_firstNumber yX7_firstNumber, .static yX8_makeOf, .initialized RX8, .code yX7_firstNumber cX7_firstNumber 7 (some .int), .methodLink RX7 27 yX7_whyBy, .instanceMethod yX7_whyBy, .selects RX7 yX7_whyBy yX7_whyBy, .code yX7_isOtherSort cX7_isOtherSort 2 (some .boolean), .methodLink RX7 62 yX0_isOtherSort, .instanceMethod yX0_isOtherSort, .selects RX0 yX0_isOtherSort yX0_isOtherSort, .code yX0_isOtherSort cX0_isOtherSort 2 (some .boolean), .fieldLink RX0 15 "RecordBench$Field" "kind" "I", .methodLink RX0 51 yX0_isNumber, .instanceMethod yX0_isNumber, .selects RX0 yX0_isNumber yX0_isNumber, .code yX0_isNumber cX0_isNumber 1 (some .boolean), .code yX7_isNarrower cX7_isNarrower 2 (some .boolean), .methodLink RX7 64 yX0_isNarrower, .instanceMethod yX0_isNarrower, .selects RX0 yX0_isNarrower yX0_isNarrower, .code yX0_isNarrower cX0_isNarrower 2 (some .boolean), .code yX0_hasOtherDefault cX0_hasOtherDefault 2 (some .boolean), .fieldLink RX0 33 "RecordBench$Field" "value" "J", .fieldLink RX0 30 "RecordBench$Field" "text" "Ljava/lang/String;", .methodLink RX0 55 yJ0_equals_9ea2d, .instanceMethod yJ0_equals_9ea2d, .selects RJ0 yJ0_equals_9ea2d yJ0_equals_9ea2d, .initialized RJ0, .code yJ0_equals_9ea2d cJ0_equals_9ea2d 3 (some .boolean), .classLink RJ0 10 "java/lang/String", .fieldLink RJ0 38 "java/lang/String" "COMPACT_STRINGS" "Z", .fieldLink RJ0 15 "java/lang/String" "coder" "B", .fieldLink RJ0 9 "java/lang/String" "value" "[B", .methodLink RJ0 541 yJ1_equals_b5fdf, .static yJ1_equals_b5fdf, .initialized RJ1, .code yJ1_equals_b5fdf cJ1_equals_b5fdf 3 (some .boolean), .code yX8_makeOf cX8_makeOf 2 (some (.object "RecordBench$Make"))] : List Cond) ++ wsX00 ++ wsX10 ++ wsX70 ++ wsJ00)
theorem gs_wq_X7_whyBy_wsX00 : GoodIn wq_X7_whyBy wsX00 := fun w h => ⟨List.mem_cons_of_mem _ (List.mem_append_left _ (List.mem_append_left _ (List.mem_append_left _ (List.mem_append_right _ h)))), (gt_wsX00 w h).2⟩
theorem gs_wq_X7_whyBy_wsX10 : GoodIn wq_X7_whyBy wsX10 := fun w h => ⟨List.mem_cons_of_mem _ (List.mem_append_left _ (List.mem_append_left _ (List.mem_append_right _ h))), (gt_wsX10 w h).2⟩
set_option maxRecDepth 20000 in
theorem gq_X7_whyBy_X7_isCrowded_50 : GoodIn wq_X7_whyBy (va_wsS RX7 50 yX7_isCrowded wq_X7_isCrowded) := goodIn_app (goodIn_r _ [1, 2, 3] rfl rfl) (goodIn_ca (goodIn_ca (goodIn_r _ [19, 7, 8, 9, 10, 20, 21, 22, 18, 23, 24, 25, 26, 27, 28, 29, 30] rfl rfl) gs_wq_X7_whyBy_wsX00) gs_wq_X7_whyBy_wsX10)
theorem gs_wq_X7_whyBy_wsX70 : GoodIn wq_X7_whyBy wsX70 := fun w h => ⟨List.mem_cons_of_mem _ (List.mem_append_left _ (List.mem_append_right _ h)), (gt_wsX70 w h).2⟩
theorem gs_wq_X7_whyBy_wsJ00 : GoodIn wq_X7_whyBy wsJ00 := fun w h => ⟨List.mem_cons_of_mem _ (List.mem_append_right _ h), (gt_wsJ00 w h).2⟩
set_option maxRecDepth 20000 in
theorem gq_X7_whyBy_X7_recBreaks_58 : GoodIn wq_X7_whyBy (wsV RX7 58 RX7 yX7_recBreaks wq_X7_recBreaks) := goodIn_app (goodIn_r _ [4, 5, 6, 3] rfl rfl) (goodIn_ca (goodIn_ca (goodIn_ca (goodIn_ca (goodIn_r _ [31, 32, 33, 34, 3, 35, 36, 37, 38, 39, 40, 41, 42, 43, 44, 45, 46, 0, 1, 2, 4, 5, 6, 7, 8, 9, 10, 11, 12, 13, 14, 15, 16, 17, 18, 19, 20, 21, 22, 23, 24, 25, 26, 27, 28, 29, 30, 47, 48, 49, 50, 51, 52, 53, 54, 55, 56, 57, 58, 59, 60, 61, 62, 63, 64, 65, 66, 67, 68, 69, 70, 71, 72, 73, 74, 75, 76, 77, 78] rfl rfl) gs_wq_X7_whyBy_wsX00) gs_wq_X7_whyBy_wsX70) gs_wq_X7_whyBy_wsX10) gs_wq_X7_whyBy_wsJ00)
set_option maxRecDepth 20000 in
theorem gq_X7_whyBy_X1_knownAt_31 : GoodIn wq_X7_whyBy (wsV RX7 31 RX1 yX1_knownAt wq_X1_knownAt) := goodIn_app (goodIn_r _ [7, 8, 9, 10] rfl rfl) (goodIn_ca (goodIn_ca (goodIn_r _ [23, 24, 25, 26, 10, 27, 28] rfl rfl) gs_wq_X7_whyBy_wsX00) gs_wq_X7_whyBy_wsX10)
set_option maxRecDepth 20000 in
theorem gq_X7_whyBy_X7_isOtherSort_37 : GoodIn wq_X7_whyBy (va_wsS RX7 37 yX7_isOtherSort wq_X7_isOtherSort) := goodIn_app (goodIn_r _ [11, 12, 3] rfl rfl) (goodIn_ca (goodIn_r _ [47, 48, 49, 50, 18, 51, 52, 53, 54, 55, 56] rfl rfl) gs_wq_X7_whyBy_wsX00)
set_option maxRecDepth 20000 in
theorem gq_X7_whyBy_X7_isNarrower_41 : GoodIn wq_X7_whyBy (va_wsS RX7 41 yX7_isNarrower wq_X7_isNarrower) := goodIn_app (goodIn_r _ [13, 14, 3] rfl rfl) (goodIn_ca (goodIn_r _ [57, 58, 59, 60, 18, 61, 52, 53, 54, 55, 56] rfl rfl) gs_wq_X7_whyBy_wsX00)
set_option maxRecDepth 20000 in
theorem gq_X7_whyBy_X0_hasOtherDefault_44 : GoodIn wq_X7_whyBy (wsV RX7 44 RX0 yX0_hasOtherDefault wq_X0_hasOtherDefault) := goodIn_app (goodIn_r _ [15, 16, 17, 18] rfl rfl) (goodIn_ca (goodIn_ca (goodIn_r _ [62, 63, 64, 65, 66, 67, 68, 69, 70, 71, 72, 73, 74, 75, 76, 77] rfl rfl) gs_wq_X7_whyBy_wsX00) gs_wq_X7_whyBy_wsJ00)
set_option maxHeartbeats 4000000 in
set_option maxRecDepth 100000 in
theorem c_X7_whyBy (l : Launch) (dC : Nat → ClassId) (dI : Nat → Nat → Nat) (ka ad : Nat → Nat) (ct : Nat → ClassId) (F : Nat → Int32 → Int32 → Int32 → Int32 → Int32 → CS → Option (Int32 × CS)) (hFm : ∀ (h0 : Nat) (p0 : Int32) (p1 : Int32) (p2 : Int32) (p3 : Int32) (p4 : Int32) (st : CS) (r : Int32) (st' : CS), F h0 p0 p1 p2 p3 p4 st = some (r, st') → Ke st st') (fr lo : Nat) (hF : ∀ (h0 : Nat) (p0 : Int32) (p1 : Int32) (p2 : Int32) (p3 : Int32) (p4 : Int32) (st st' : CS) (r : Int32) (hf : F h0 p0 p1 p2 p3 p4 st = some (r, st')) (sz : Nat), Met l yX7_breaks wq_X7_breaks ({ frames := fr, cells := 0, slots := 0, locals := lo }) (va_Pc [.ref (ad h0), .int p0, .int p1, .int p2, .int p3, .int p4] (PrC (dC, dI) ct ka ad st sz)) (va_Qi (fun r' (_ : Unit) => r' = r) (fun _ => CB (dC, dI) ct ka ad st' (aC ad st sz)) (aC ad st sz)) 0 0 (aC ad st sz)) (h0 : Nat) (p0 : Int32) (p1 : Option Nat) (p2 : Option Nat) (p3 : Option Nat) (p4 : Int32) (p5 : Int32) (st st' : CS) (r : Int32) (hf : fX7_whyBy F h0 p0 p1 p2 p3 p4 p5 st = some (r, st')) (sz : Nat) : Met l yX7_whyBy wq_X7_whyBy ({ frames := fr + 3, cells := 0, slots := 0, locals := lo + 81 }) (va_Pc [.ref (ad h0), .int p0, va_rf (Option.map ad p1), va_rf (Option.map ad p2), va_rf (Option.map ad p3), .int p4, .int p5] (PrC (dC, dI) ct ka ad st sz)) (va_Qi (fun r' (_ : Unit) => r' = r) (fun _ => CB (dC, dI) ct ka ad st' (aC ad st sz)) (aC ad st sz)) 0 0 (aC ad st sz) := by
  refine Met.ofW (cc := cX7_whyBy) (maxL := 10) (ret := (some .int)) (by decide) rfl ?_
  intro p e s m args below meth c s₁ B hml hv
  obtain ⟨rfl, hsz, hw0, hK, hN, hZ, hC, hR, hL, hw1, hw2⟩ := hv
  have hx := B.exec
  have hb := B.bytes
  have hr := B.returns
  have hts := atoms_spec (ws := wq_X7_whyBy) B.pre
  have hown : s.vm.findClass RX7 = some m.cls := findClass_of_methodNamed B.named
  have iRX0 : ∀ w ∈ u_ws RX0 TX0 7, w ∈ wq_X7_whyBy := fun w h => List.mem_cons_of_mem _ (List.mem_append_left _ (List.mem_append_left _ (List.mem_append_left _ (List.mem_append_right _ h))))
  subst hsz
  have hp : Cp (dC, dI) ka ad ct (aC ad st s.heap.size) s.heap st s.heap [] := ⟨fun i a b => ⟨hw0 i a b, Or.inl ⟨i, a, b, rfl⟩⟩, va_S.rf, hw1, hw2⟩
  generalize hAe : aC ad st s.heap.size = A at hp hZ hC ⊢
  have hA : ∀ q : Nat, s.heap.size ≤ q → A q := fun q h => by rw [← hAe]; exact Or.inr h
  have hl := lv_entry ([.ref (ad h0), .int p0, va_rf (Option.map ad p1), va_rf (Option.map ad p2), va_rf (Option.map ad p3), .int p4, .int p5]) (n := 10) (by simp [lg_sl, rf_cat, vc_i, vc_l, vc_r, vc_n])
  rw [lg_entry_eq]
  generalize (lg_sl ([.ref (ad h0), .int p0, va_rf (Option.map ad p1), va_rf (Option.map ad p2), va_rf (Option.map ad p3), .int p4, .int p5]) ++ List.replicate (10 - (lg_sl ([.ref (ad h0), .int p0, va_rf (Option.map ad p1), va_rf (Option.map ad p2), va_rf (Option.map ad p3), .int p4, .int p5])).length) Slot.unset).toArray = ls at hl ⊢
  have hl : lv_has ls 10 [(0, .ref (ad h0)), (1, .int p0), (2, va_rf (Option.map ad p1)), (3, va_rf (Option.map ad p2)), (4, va_rf (Option.map ad p3)), (5, .int p4), (6, .int p5)] := by simpa [lv_args, rf_cat, vc_i, vc_l, vc_r, vc_n] using hl
  refine W_blk (fun (u : (Option Nat) × (Option Nat) × (Option Nat) × Int32 × Int32 × (Option Nat) × (Option Nat) × (Option Nat) × CS) H locs ls => match u with | (l2, l3, l4, l5, l6, l7, l8, l9, gs) => fX7_whyBy_95 h0 F l2 l3 l4 l5 l6 l7 l8 l9 gs = some (r, st') ∧ Cp (dC, dI) ka ad ct A s.heap gs H locs ∧ lv_has ls 10 [(0, .ref (ad h0)), (2, va_rf (Option.map ad l2)), (3, va_rf (Option.map ad l3)), (4, va_rf (Option.map ad l4)), (5, .int l5), (6, .int l6), (7, va_rf (Option.map ad l7)), (8, va_rf (Option.map ad l8)), (9, va_rf (Option.map ad l9))]) (fun (u : (Option Nat) × (Option Nat) × (Option Nat) × Int32 × Int32 × (Option Nat) × (Option Nat) × (Option Nat) × CS) ls => match u with | (l2, l3, l4, l5, l6, l7, l8, l9, gs) => F0 m 95 ls []) ?_ (fun J95 => ?_)
  · intro u H locs ls hu
    obtain ⟨l2, l3, l4, l5, l6, l7, l8, l9, gs⟩ := u
    obtain ⟨hf, hp, hl⟩ := hu
    show W p l e _ s m _ below meth c _ _ _ _ _ (F0 m 95 ls [])
    unfold fX7_whyBy_95 at hf
    refine o_aload hx hb dX7_whyBy_95 (lv_at hl 6 rfl) ?_
    refine o_aload_n hx hb dX7_whyBy_97 rfl (lv_at hl 1 rfl) ?_
    refine o_aload_n hx hb dX7_whyBy_98 rfl (lv_at hl 2 rfl) ?_
    obtain ⟨r_3, st_1, hc_2, hf⟩ := bnd_some hf
    refine q_ci hp hA (va_runS (As := [va_rf (Option.map ad l7), va_rf (Option.map ad l2), va_rf (Option.map ad l3)]) (rest := []) ⟨hx, hb, hml, hown, hts⟩ (c_X7_isCrowded l dC dI ka ad ct l7 l2 l3 _ _ _ hc_2 _) (va_cwS 3 hts gq_X7_whyBy_X7_isCrowded_50 rfl rfl rfl (by decide +kernel) ⟨by show 2 + 1 ≤ fr + 3; omega, by show 8 + (7 + 11) + 51 ≤ lo + 81; omega⟩) ⟨PrC.blind _, q_pre hp hK hN hZ hC hR hL hA⟩ rfl rfl hl.1 rfl (lv_room (Nat.le_of_ble_eq_true rfl)) dX7_whyBy_99 ⟨Nat.le_of_ble_eq_true rfl, Nat.le_of_ble_eq_true rfl⟩) (fun H locs hp => ?_)
    refine lv_if_ne (tgt := 116) hx hb dX7_whyBy_102 (by decide) (fun c_4 => ?_) (fun c_4 => ?_)
    · have hf := pif_f c_4 hf
      refine lv_iconst (v := 4) hx hb dX7_whyBy_116 (by decide) ?_
      obtain ⟨e1, e2⟩ := pr_some hf
      exact W.iret (v := 4) hx hb hr (fun t ht hW => ⟨⟨4, (), rfl, e1, Cp.end e2 hp ht⟩, hp.2.1.F ht⟩) hp.2.1.2.2 dX7_whyBy_117
    · have hf := pif_t c_4 hf
      refine o_aload hx hb dX7_whyBy_105 (lv_at hl 6 rfl) ?_
      refine o_aload_n hx hb dX7_whyBy_107 rfl (lv_at hl 1 rfl) ?_
      refine o_aload hx hb dX7_whyBy_108 (lv_at hl 3 rfl) ?_
      obtain ⟨r_7, st_5, hc_6, hf⟩ := bnd_some hf
      refine q_ci hp hA (va_runS (As := [va_rf (Option.map ad l7), va_rf (Option.map ad l2), va_rf (Option.map ad l4)]) (rest := []) ⟨hx, hb, hml, hown, hts⟩ (c_X7_isCrowded l dC dI ka ad ct l7 l2 l4 _ _ _ hc_6 _) (va_cwS 3 hts gq_X7_whyBy_X7_isCrowded_50 rfl rfl rfl (by decide +kernel) ⟨by show 2 + 1 ≤ fr + 3; omega, by show 8 + (7 + 11) + 51 ≤ lo + 81; omega⟩) ⟨PrC.blind _, q_pre hp hK hN hZ hC hR hL hA⟩ rfl rfl hl.1 rfl (lv_room (Nat.le_of_ble_eq_true rfl)) dX7_whyBy_110 ⟨Nat.le_of_ble_eq_true rfl, Nat.le_of_ble_eq_true rfl⟩) (fun H locs hp => ?_)
      refine lv_if_eq (tgt := 118) hx hb dX7_whyBy_113 (by decide) (fun c_8 => ?_) (fun c_8 => ?_)
      · have hf := pif_t c_8 hf
        refine o_aload hx hb dX7_whyBy_118 (lv_at hl 6 rfl) ?_
        obtain ⟨a_9, ha_10, hf⟩ := ono_some hf
        refine o_at ha_10 ?_
        obtain ⟨hk_11, hf⟩ := gd_some hf
        refine q_gi (ci := 2) (C := RX0) (T := TX0) (N := 7) (k := 1) hx hb hts iRX0 hown hK hp hk_11 (by decide) rfl rfl (by decide) rfl (Or.inr ⟨_, va_Nw.use rfl (hN.1 (.fieldLinkNest RX7 54 "RecordBench$Field" "kind" "I" "RecordBench") (by decide +kernel))⟩) (fun _ h9 => h9) dX7_whyBy_120 ?_
        refine lv_bipush (v := 6) hx hb dX7_whyBy_123 (by decide) ?_
        refine lv_icmp_ne (tgt := 149) hx hb dX7_whyBy_125 (by decide) (fun c_12 => ?_) (fun c_12 => ?_)
        · have hf := pif_f c_12 hf
          refine lv_iconst (v := 0) hx hb dX7_whyBy_149 (by decide) ?_
          obtain ⟨e1, e2⟩ := pr_some hf
          exact W.iret (v := 0) hx hb hr (fun t ht hW => ⟨⟨0, (), rfl, e1, Cp.end e2 hp ht⟩, hp.2.1.F ht⟩) hp.2.1.2.2 dX7_whyBy_150
        · have hf := pif_t c_12 hf
          refine lv_aload_n hx hb dX7_whyBy_128 rfl (lv_at hl 0 rfl) ?_
          refine o_aload hx hb dX7_whyBy_129 (lv_at hl 6 rfl) ?_
          refine o_aload hx hb dX7_whyBy_131 (lv_at hl 7 rfl) ?_
          refine o_aload hx hb dX7_whyBy_133 (lv_at hl 8 rfl) ?_
          refine lv_iload hx hb dX7_whyBy_135 (lv_at hl 4 rfl) ?_
          refine lv_iload hx hb dX7_whyBy_137 (lv_at hl 5 rfl) ?_
          obtain ⟨hk_13, hf⟩ := gd_some hf
          obtain ⟨r_16, st_14, hc_15, hf⟩ := bnd_some hf
          refine q_ci hp hA (va_runV (As := [va_rf (Option.map ad l7), va_rf (Option.map ad l8), va_rf (Option.map ad l9), .int l5, .int l6]) (rest := []) ⟨hx, hb, hml, hown, hts⟩ (c_X7_recBreaks l dC dI ka ad ct F hFm fr lo hF h0 l7 l8 l9 l5 l6 _ _ _ hc_15 _) (cwV 5 hts gq_X7_whyBy_X7_recBreaks_58 rfl rfl rfl (by decide +kernel) ⟨by show fr + 1 + 1 ≤ fr + 3; omega, by show 8 + (8 + 11) + (lo + 34) ≤ lo + 81; omega⟩) ⟨PrC.blind _, q_rv9 hK hp hC hk_13, q_pre hp hK hN hZ hC hR hL hA⟩ rfl rfl hl.1 rfl (lv_room (Nat.le_of_ble_eq_true rfl)) dX7_whyBy_139 ⟨Nat.le_of_ble_eq_true rfl, Nat.le_of_ble_eq_true rfl⟩) (fun H locs hp => ?_)
          have hk_11 : qk st_14 a_9 = 3 := by rw [(mo_X7_recBreaks F hFm h0 l7 l8 l9 l5 l6 _ _ _ hc_15).2.2.1]; exact hk_11
          have hk_13 : qk st_14 h0 = 10 := by rw [(mo_X7_recBreaks F hFm h0 l7 l8 l9 l5 l6 _ _ _ hc_15).2.2.1]; exact hk_13
          refine lv_if_eq (tgt := 149) hx hb dX7_whyBy_142 (by decide) (fun c_17 => ?_) (fun c_17 => ?_)
          · have hf := pif_t c_17 hf
            refine lv_iconst (v := 0) hx hb dX7_whyBy_149 (by decide) ?_
            obtain ⟨e1, e2⟩ := pr_some hf
            exact W.iret (v := 0) hx hb hr (fun t ht hW => ⟨⟨0, (), rfl, e1, Cp.end e2 hp ht⟩, hp.2.1.F ht⟩) hp.2.1.2.2 dX7_whyBy_150
          · have hf := pif_f c_17 hf
            refine lv_iconst (v := 5) hx hb dX7_whyBy_145 (by decide) ?_
            refine lv_goto (tgt := 150) hx hb dX7_whyBy_146 (by decide) ?_
            obtain ⟨e1, e2⟩ := pr_some hf
            exact W.iret (v := 5) hx hb hr (fun t ht hW => ⟨⟨5, (), rfl, e1, Cp.end e2 hp ht⟩, hp.2.1.F ht⟩) hp.2.1.2.2 dX7_whyBy_150
      · have hf := pif_f c_8 hf
        refine lv_iconst (v := 4) hx hb dX7_whyBy_116 (by decide) ?_
        obtain ⟨e1, e2⟩ := pr_some hf
        exact W.iret (v := 4) hx hb hr (fun t ht hW => ⟨⟨4, (), rfl, e1, Cp.end e2 hp ht⟩, hp.2.1.F ht⟩) hp.2.1.2.2 dX7_whyBy_117
  unfold fX7_whyBy at hf
  refine o_aload_n hx hb dX7_whyBy_0 rfl (lv_at hl 2 rfl) ?_
  refine lv_iload_n hx hb dX7_whyBy_1 rfl (lv_at hl 1 rfl) ?_
  obtain ⟨a_18, ha_19, hf⟩ := ono_some hf
  refine o_at1 ha_19 ?_
  obtain ⟨hk_20, hf⟩ := gd_some hf
  obtain ⟨r_23, st_21, hc_22, hf⟩ := bnd_some hf
  refine q_cq hp hA (va_runV (As := [.int p0]) (rest := []) ⟨hx, hb, hml, hown, hts⟩ (c_X1_knownAt l dC dI ka ad ct a_18 p0 _ _ _ hc_22 _) (cwV 1 hts gq_X7_whyBy_X1_knownAt_31 rfl rfl rfl (by decide +kernel) ⟨by show 1 + 1 ≤ fr + 3; omega, by show 8 + (3 + 11) + 25 ≤ lo + 81; omega⟩) ⟨PrC.blind _, q_rv3 hK hp hC hk_20, q_pre hp hK hN hZ hC hR hL hA⟩ rfl rfl hl.1 rfl (lv_room (Nat.le_of_ble_eq_true rfl)) dX7_whyBy_2 ⟨Nat.le_of_ble_eq_true rfl, Nat.le_of_ble_eq_true rfl⟩) (fun H locs hp => ?_)
  have hk_20 : qk st_21 a_18 = 4 := by rw [(mo_X1_knownAt a_18 p0 _ _ _ hc_22).2.2.1]; exact hk_20
  refine o_astore (i := 7) (lv' := [(7, va_rf (Option.map ad r_23)), (0, .ref (ad h0)), (1, .int p0), (2, va_rf (Option.map ad p1)), (3, va_rf (Option.map ad p2)), (4, va_rf (Option.map ad p3)), (5, .int p4), (6, .int p5)]) hx hb dX7_whyBy_5 hl (by decide) rfl (fun ls hl => ?_)
  refine o_aload hx hb dX7_whyBy_7 (lv_at hl 0 rfl) ?_
  refine o_ifnonnull (tgt := 14) hx hb dX7_whyBy_9 (by decide) (fun c_24 => ?_) (fun c_24 => ?_)
  · have hf := pif_f c_24 hf
    refine o_aload_n hx hb dX7_whyBy_14 rfl (lv_at hl 4 rfl) ?_
    refine lv_iload_n hx hb dX7_whyBy_15 rfl (lv_at hl 2 rfl) ?_
    obtain ⟨a_25, ha_26, hf⟩ := ono_some hf
    refine o_at1 ha_26 ?_
    obtain ⟨hk_27, hf⟩ := gd_some hf
    obtain ⟨r_30, st_28, hc_29, hf⟩ := bnd_some hf
    refine q_cq hp hA (va_runV (As := [.int p0]) (rest := []) ⟨hx, hb, hml, hown, hts⟩ (c_X1_knownAt l dC dI ka ad ct a_25 p0 _ _ _ hc_29 _) (cwV 1 hts gq_X7_whyBy_X1_knownAt_31 rfl rfl rfl (by decide +kernel) ⟨by show 1 + 1 ≤ fr + 3; omega, by show 8 + (3 + 11) + 25 ≤ lo + 81; omega⟩) ⟨PrC.blind _, q_rv3 hK hp hC hk_27, q_pre hp hK hN hZ hC hR hL hA⟩ rfl rfl hl.1 rfl (lv_room (Nat.le_of_ble_eq_true rfl)) dX7_whyBy_16 ⟨Nat.le_of_ble_eq_true rfl, Nat.le_of_ble_eq_true rfl⟩) (fun H locs hp => ?_)
    have hk_20 : qk st_28 a_18 = 4 := by rw [(mo_X1_knownAt a_25 p0 _ _ _ hc_29).2.2.1]; exact hk_20
    have hk_27 : qk st_28 a_25 = 4 := by rw [(mo_X1_knownAt a_25 p0 _ _ _ hc_29).2.2.1]; exact hk_27
    refine o_astore (i := 8) (lv' := [(8, va_rf (Option.map ad r_30)), (7, va_rf (Option.map ad r_23)), (0, .ref (ad h0)), (1, .int p0), (2, va_rf (Option.map ad p1)), (3, va_rf (Option.map ad p2)), (4, va_rf (Option.map ad p3)), (5, .int p4), (6, .int p5)]) hx hb dX7_whyBy_19 hl (by decide) (by simp [rf_cat, vc_i, vc_l, vc_r, vc_n]) (fun ls hl => ?_)
    refine o_aload hx hb dX7_whyBy_21 (lv_at hl 6 rfl) ?_
    refine lv_iload_n hx hb dX7_whyBy_23 rfl (lv_at hl 3 rfl) ?_
    obtain ⟨a_31, ha_32, hf⟩ := ono_some hf
    refine o_at1 ha_32 ?_
    obtain ⟨hk_33, hf⟩ := gd_some hf
    obtain ⟨r_36, st_34, hc_35, hf⟩ := bnd_some hf
    refine q_cq hp hA (va_runV (As := [.int p0]) (rest := []) ⟨hx, hb, hml, hown, hts⟩ (c_X1_knownAt l dC dI ka ad ct a_31 p0 _ _ _ hc_35 _) (cwV 1 hts gq_X7_whyBy_X1_knownAt_31 rfl rfl rfl (by decide +kernel) ⟨by show 1 + 1 ≤ fr + 3; omega, by show 8 + (3 + 11) + 25 ≤ lo + 81; omega⟩) ⟨PrC.blind _, q_rv3 hK hp hC hk_33, q_pre hp hK hN hZ hC hR hL hA⟩ rfl rfl hl.1 rfl (lv_room (Nat.le_of_ble_eq_true rfl)) dX7_whyBy_24 ⟨Nat.le_of_ble_eq_true rfl, Nat.le_of_ble_eq_true rfl⟩) (fun H locs hp => ?_)
    have hk_20 : qk st_34 a_18 = 4 := by rw [(mo_X1_knownAt a_31 p0 _ _ _ hc_35).2.2.1]; exact hk_20
    have hk_27 : qk st_34 a_25 = 4 := by rw [(mo_X1_knownAt a_31 p0 _ _ _ hc_35).2.2.1]; exact hk_27
    have hk_33 : qk st_34 a_31 = 4 := by rw [(mo_X1_knownAt a_31 p0 _ _ _ hc_35).2.2.1]; exact hk_33
    refine o_astore (i := 9) (lv' := [(9, va_rf (Option.map ad r_36)), (8, va_rf (Option.map ad r_30)), (7, va_rf (Option.map ad r_23)), (0, .ref (ad h0)), (1, .int p0), (2, va_rf (Option.map ad p1)), (3, va_rf (Option.map ad p2)), (4, va_rf (Option.map ad p3)), (5, .int p4), (6, .int p5)]) hx hb dX7_whyBy_27 hl (by decide) (by simp [rf_cat, vc_i, vc_l, vc_r, vc_n]) (fun ls hl => ?_)
    refine o_aload hx hb dX7_whyBy_29 (lv_at hl 2 rfl) ?_
    refine o_aload hx hb dX7_whyBy_31 (lv_at hl 1 rfl) ?_
    obtain ⟨r_39, st_37, hc_38, hf⟩ := bnd_some hf
    refine q_ci hp hA (va_runS (As := [va_rf (Option.map ad r_23), va_rf (Option.map ad r_30)]) (rest := []) ⟨hx, hb, hml, hown, hts⟩ (c_X7_isOtherSort l dC dI ka ad ct r_23 r_30 _ _ _ hc_38 _) (va_cwS 2 hts gq_X7_whyBy_X7_isOtherSort_37 rfl rfl rfl (by decide +kernel) ⟨by show 2 + 1 ≤ fr + 3; omega, by show 8 + (2 + 11) + 49 ≤ lo + 81; omega⟩) ⟨PrC.blind _, q_pre hp hK hN hZ hC hR hL hA⟩ rfl rfl hl.1 rfl (lv_room (Nat.le_of_ble_eq_true rfl)) dX7_whyBy_33 ⟨Nat.le_of_ble_eq_true rfl, Nat.le_of_ble_eq_true rfl⟩) (fun H locs hp => ?_)
    have hk_20 : qk st_37 a_18 = 4 := by rw [(mo_X7_isOtherSort r_23 r_30 _ _ _ hc_38).2.2.1]; exact hk_20
    have hk_27 : qk st_37 a_25 = 4 := by rw [(mo_X7_isOtherSort r_23 r_30 _ _ _ hc_38).2.2.1]; exact hk_27
    have hk_33 : qk st_37 a_31 = 4 := by rw [(mo_X7_isOtherSort r_23 r_30 _ _ _ hc_38).2.2.1]; exact hk_33
    refine lv_if_ne (tgt := 49) hx hb dX7_whyBy_36 (by decide) (fun c_40 => ?_) (fun c_40 => ?_)
    · have hf := pif_f c_40 hf
      refine lv_iconst (v := 1) hx hb dX7_whyBy_49 (by decide) ?_
      obtain ⟨e1, e2⟩ := pr_some hf
      exact W.iret (v := 1) hx hb hr (fun t ht hW => ⟨⟨1, (), rfl, e1, Cp.end e2 hp ht⟩, hp.2.1.F ht⟩) hp.2.1.2.2 dX7_whyBy_50
    · have hf := pif_t c_40 hf
      refine o_aload hx hb dX7_whyBy_39 (lv_at hl 2 rfl) ?_
      refine o_aload hx hb dX7_whyBy_41 (lv_at hl 0 rfl) ?_
      obtain ⟨r_43, st_41, hc_42, hf⟩ := bnd_some hf
      refine q_ci hp hA (va_runS (As := [va_rf (Option.map ad r_23), va_rf (Option.map ad r_36)]) (rest := []) ⟨hx, hb, hml, hown, hts⟩ (c_X7_isOtherSort l dC dI ka ad ct r_23 r_36 _ _ _ hc_42 _) (va_cwS 2 hts gq_X7_whyBy_X7_isOtherSort_37 rfl rfl rfl (by decide +kernel) ⟨by show 2 + 1 ≤ fr + 3; omega, by show 8 + (2 + 11) + 49 ≤ lo + 81; omega⟩) ⟨PrC.blind _, q_pre hp hK hN hZ hC hR hL hA⟩ rfl rfl hl.1 rfl (lv_room (Nat.le_of_ble_eq_true rfl)) dX7_whyBy_43 ⟨Nat.le_of_ble_eq_true rfl, Nat.le_of_ble_eq_true rfl⟩) (fun H locs hp => ?_)
      have hk_20 : qk st_41 a_18 = 4 := by rw [(mo_X7_isOtherSort r_23 r_36 _ _ _ hc_42).2.2.1]; exact hk_20
      have hk_27 : qk st_41 a_25 = 4 := by rw [(mo_X7_isOtherSort r_23 r_36 _ _ _ hc_42).2.2.1]; exact hk_27
      have hk_33 : qk st_41 a_31 = 4 := by rw [(mo_X7_isOtherSort r_23 r_36 _ _ _ hc_42).2.2.1]; exact hk_33
      refine lv_if_eq (tgt := 51) hx hb dX7_whyBy_46 (by decide) (fun c_44 => ?_) (fun c_44 => ?_)
      · have hf := pif_t c_44 hf
        refine o_aload hx hb dX7_whyBy_51 (lv_at hl 1 rfl) ?_
        refine o_aload hx hb dX7_whyBy_53 (lv_at hl 2 rfl) ?_
        obtain ⟨r_47, st_45, hc_46, hf⟩ := bnd_some hf
        refine q_ci hp hA (va_runS (As := [va_rf (Option.map ad r_30), va_rf (Option.map ad r_23)]) (rest := []) ⟨hx, hb, hml, hown, hts⟩ (c_X7_isNarrower l dC dI ka ad ct r_30 r_23 _ _ _ hc_46 _) (va_cwS 2 hts gq_X7_whyBy_X7_isNarrower_41 rfl rfl rfl (by decide +kernel) ⟨by show 2 + 1 ≤ fr + 3; omega, by show 8 + (2 + 11) + 49 ≤ lo + 81; omega⟩) ⟨PrC.blind _, q_pre hp hK hN hZ hC hR hL hA⟩ rfl rfl hl.1 rfl (lv_room (Nat.le_of_ble_eq_true rfl)) dX7_whyBy_55 ⟨Nat.le_of_ble_eq_true rfl, Nat.le_of_ble_eq_true rfl⟩) (fun H locs hp => ?_)
        have hk_20 : qk st_45 a_18 = 4 := by rw [(mo_X7_isNarrower r_30 r_23 _ _ _ hc_46).2.2.1]; exact hk_20
        have hk_27 : qk st_45 a_25 = 4 := by rw [(mo_X7_isNarrower r_30 r_23 _ _ _ hc_46).2.2.1]; exact hk_27
        have hk_33 : qk st_45 a_31 = 4 := by rw [(mo_X7_isNarrower r_30 r_23 _ _ _ hc_46).2.2.1]; exact hk_33
        refine lv_if_ne (tgt := 71) hx hb dX7_whyBy_58 (by decide) (fun c_48 => ?_) (fun c_48 => ?_)
        · have hf := pif_f c_48 hf
          refine lv_iconst (v := 2) hx hb dX7_whyBy_71 (by decide) ?_
          obtain ⟨e1, e2⟩ := pr_some hf
          exact W.iret (v := 2) hx hb hr (fun t ht hW => ⟨⟨2, (), rfl, e1, Cp.end e2 hp ht⟩, hp.2.1.F ht⟩) hp.2.1.2.2 dX7_whyBy_72
        · have hf := pif_t c_48 hf
          refine o_aload hx hb dX7_whyBy_61 (lv_at hl 0 rfl) ?_
          refine o_aload hx hb dX7_whyBy_63 (lv_at hl 2 rfl) ?_
          obtain ⟨r_51, st_49, hc_50, hf⟩ := bnd_some hf
          refine q_ci hp hA (va_runS (As := [va_rf (Option.map ad r_36), va_rf (Option.map ad r_23)]) (rest := []) ⟨hx, hb, hml, hown, hts⟩ (c_X7_isNarrower l dC dI ka ad ct r_36 r_23 _ _ _ hc_50 _) (va_cwS 2 hts gq_X7_whyBy_X7_isNarrower_41 rfl rfl rfl (by decide +kernel) ⟨by show 2 + 1 ≤ fr + 3; omega, by show 8 + (2 + 11) + 49 ≤ lo + 81; omega⟩) ⟨PrC.blind _, q_pre hp hK hN hZ hC hR hL hA⟩ rfl rfl hl.1 rfl (lv_room (Nat.le_of_ble_eq_true rfl)) dX7_whyBy_65 ⟨Nat.le_of_ble_eq_true rfl, Nat.le_of_ble_eq_true rfl⟩) (fun H locs hp => ?_)
          have hk_20 : qk st_49 a_18 = 4 := by rw [(mo_X7_isNarrower r_36 r_23 _ _ _ hc_50).2.2.1]; exact hk_20
          have hk_27 : qk st_49 a_25 = 4 := by rw [(mo_X7_isNarrower r_36 r_23 _ _ _ hc_50).2.2.1]; exact hk_27
          have hk_33 : qk st_49 a_31 = 4 := by rw [(mo_X7_isNarrower r_36 r_23 _ _ _ hc_50).2.2.1]; exact hk_33
          refine lv_if_eq (tgt := 73) hx hb dX7_whyBy_68 (by decide) (fun c_52 => ?_) (fun c_52 => ?_)
          · have hf := pif_t c_52 hf
            refine lv_iload hx hb dX7_whyBy_73 (lv_at hl 8 rfl) ?_
            refine lv_if_eq (tgt := 95) hx hb dX7_whyBy_75 (by decide) (fun c_53 => ?_) (fun c_53 => ?_)
            · have hf := pif_t c_53 hf
              exact J95 (p1, p2, p3, p4, p5, r_23, r_30, r_36, st_49) _ _ _ ⟨hf, hp, (lv_sub hl [3, 5, 6, 7, 8, 9, 2, 1, 0] rfl)⟩
            · have hf := pif_f c_53 hf
              refine o_aload hx hb dX7_whyBy_78 (lv_at hl 0 rfl) ?_
              refine o_ifnull (tgt := 95) hx hb dX7_whyBy_80 (by decide) (fun c_54 => ?_) (fun c_54 => ?_)
              · have hf := pif_t c_54 hf
                exact J95 (p1, p2, p3, p4, p5, r_23, r_30, r_36, st_49) _ _ _ ⟨hf, hp, (lv_sub hl [3, 5, 6, 7, 8, 9, 2, 1, 0] rfl)⟩
              · have hf := pif_f c_54 hf
                refine o_aload hx hb dX7_whyBy_83 (lv_at hl 0 rfl) ?_
                refine o_aload hx hb dX7_whyBy_85 (lv_at hl 2 rfl) ?_
                obtain ⟨a_55, ha_56, hf⟩ := ono_some hf
                refine o_at1 ha_56 ?_
                obtain ⟨hk_57, hf⟩ := gd_some hf
                obtain ⟨r_60, st_58, hc_59, hf⟩ := bnd_some hf
                refine q_ci hp hA (va_runV (As := [va_rf (Option.map ad r_23)]) (rest := []) ⟨hx, hb, hml, hown, hts⟩ (c_X0_hasOtherDefault l dC dI ka ad ct a_55 r_23 _ _ _ hc_59 _) (cwV 1 hts gq_X7_whyBy_X0_hasOtherDefault_44 rfl rfl rfl (by decide +kernel) ⟨by show 2 + 1 ≤ fr + 3; omega, by show 8 + (2 + 11) + 52 ≤ lo + 81; omega⟩) ⟨PrC.blind _, q_rv2 hK hp hC hk_57, q_pre hp hK hN hZ hC hR hL hA⟩ rfl rfl hl.1 rfl (lv_room (Nat.le_of_ble_eq_true rfl)) dX7_whyBy_87 ⟨Nat.le_of_ble_eq_true rfl, Nat.le_of_ble_eq_true rfl⟩) (fun H locs hp => ?_)
                have hk_20 : qk st_58 a_18 = 4 := by rw [(mo_X0_hasOtherDefault a_55 r_23 _ _ _ hc_59).2.2.1]; exact hk_20
                have hk_27 : qk st_58 a_25 = 4 := by rw [(mo_X0_hasOtherDefault a_55 r_23 _ _ _ hc_59).2.2.1]; exact hk_27
                have hk_33 : qk st_58 a_31 = 4 := by rw [(mo_X0_hasOtherDefault a_55 r_23 _ _ _ hc_59).2.2.1]; exact hk_33
                have hk_57 : qk st_58 a_55 = 3 := by rw [(mo_X0_hasOtherDefault a_55 r_23 _ _ _ hc_59).2.2.1]; exact hk_57
                refine lv_if_eq (tgt := 95) hx hb dX7_whyBy_90 (by decide) (fun c_61 => ?_) (fun c_61 => ?_)
                · have hf := pif_t c_61 hf
                  exact J95 (p1, p2, p3, p4, p5, r_23, r_30, r_36, st_58) _ _ _ ⟨hf, hp, (lv_sub hl [3, 5, 6, 7, 8, 9, 2, 1, 0] rfl)⟩
                · have hf := pif_f c_61 hf
                  refine lv_iconst (v := 3) hx hb dX7_whyBy_93 (by decide) ?_
                  obtain ⟨e1, e2⟩ := pr_some hf
                  exact W.iret (v := 3) hx hb hr (fun t ht hW => ⟨⟨3, (), rfl, e1, Cp.end e2 hp ht⟩, hp.2.1.F ht⟩) hp.2.1.2.2 dX7_whyBy_94
          · have hf := pif_f c_52 hf
            refine lv_iconst (v := 2) hx hb dX7_whyBy_71 (by decide) ?_
            obtain ⟨e1, e2⟩ := pr_some hf
            exact W.iret (v := 2) hx hb hr (fun t ht hW => ⟨⟨2, (), rfl, e1, Cp.end e2 hp ht⟩, hp.2.1.F ht⟩) hp.2.1.2.2 dX7_whyBy_72
      · have hf := pif_f c_44 hf
        refine lv_iconst (v := 1) hx hb dX7_whyBy_49 (by decide) ?_
        obtain ⟨e1, e2⟩ := pr_some hf
        exact W.iret (v := 1) hx hb hr (fun t ht hW => ⟨⟨1, (), rfl, e1, Cp.end e2 hp ht⟩, hp.2.1.F ht⟩) hp.2.1.2.2 dX7_whyBy_50
  · have hf := pif_t c_24 hf
    refine lv_iconst (v := 0) hx hb dX7_whyBy_12 (by decide) ?_
    obtain ⟨e1, e2⟩ := pr_some hf
    exact W.iret (v := 0) hx hb hr (fun t ht hW => ⟨⟨0, (), rfl, e1, Cp.end e2 hp ht⟩, hp.2.1.F ht⟩) hp.2.1.2.2 dX7_whyBy_13
noncomputable def fX7_firstNumber_3 (h0 : Nat) (F : Nat → Int32 → Int32 → Int32 → Int32 → Int32 → CS → Option (Int32 × CS))  : Nat → Option Nat → Option Nat → Option Nat → Int32 → Int32 → Int32 → CS → Option (Int32 × CS)
  | 0 => fun _ _ _ _ _ _ _ => none
  | n + 1 => fun l1 l2 l3 l4 l5 l6 gs => pif (30 < l6) (some ((0 : Int32), gs)) (gd (qk gs h0 = 10) (bnd (fX7_whyBy F h0 l6 l1 l2 l3 l4 l5 gs) (fun r_5 st_3 => pif (r_5 = 0) (nam (l6 + 1) (fun v_7 => (fX7_firstNumber_3 h0 F n) l1 l2 l3 l4 l5 v_7 st_3)) (some (l6, st_3)))))
theorem fX7_firstNumber_3_z (h0 : Nat) (F : Nat → Int32 → Int32 → Int32 → Int32 → Int32 → CS → Option (Int32 × CS))  (l1 : Option Nat) (l2 : Option Nat) (l3 : Option Nat) (l4 : Int32) (l5 : Int32) (l6 : Int32) (gs : CS) : fX7_firstNumber_3 h0 F 0 l1 l2 l3 l4 l5 l6 gs = none := rfl
theorem fX7_firstNumber_3_s (h0 : Nat) (F : Nat → Int32 → Int32 → Int32 → Int32 → Int32 → CS → Option (Int32 × CS))  (n : Nat) (l1 : Option Nat) (l2 : Option Nat) (l3 : Option Nat) (l4 : Int32) (l5 : Int32) (l6 : Int32) (gs : CS) : fX7_firstNumber_3 h0 F (n + 1) l1 l2 l3 l4 l5 l6 gs = pif (30 < l6) (some ((0 : Int32), gs)) (gd (qk gs h0 = 10) (bnd (fX7_whyBy F h0 l6 l1 l2 l3 l4 l5 gs) (fun r_5 st_3 => pif (r_5 = 0) (nam (l6 + 1) (fun v_7 => (fX7_firstNumber_3 h0 F n) l1 l2 l3 l4 l5 v_7 st_3)) (some (l6, st_3))))) := rfl
set_option maxHeartbeats 1000000 in
theorem mo_X7_firstNumber_3 (h0 : Nat) (F : Nat → Int32 → Int32 → Int32 → Int32 → Int32 → CS → Option (Int32 × CS))   (hFm : ∀ (h0 : Nat) (p0 : Int32) (p1 : Int32) (p2 : Int32) (p3 : Int32) (p4 : Int32) (st : CS) (r : Int32) (st' : CS), F h0 p0 p1 p2 p3 p4 st = some (r, st') → Ke st st') : ∀ (n : Nat) (l1 : Option Nat) (l2 : Option Nat) (l3 : Option Nat) (l4 : Int32) (l5 : Int32) (l6 : Int32) (gs : CS) (r : Int32) (st' : CS), fX7_firstNumber_3 h0 F n l1 l2 l3 l4 l5 l6 gs = some (r, st') → Ke gs st' := by
  intro n
  induction n with
  | zero =>
    intro l1 l2 l3 l4 l5 l6 gs r st' hf
    rw [fX7_firstNumber_3_z] at hf
    cases hf
  | succ n ih =>
    intro l1 l2 l3 l4 l5 l6 gs r st' hf
    rw [fX7_firstNumber_3_s] at hf
    have hm : Ke gs gs := Ke.rf
    rcases pif_or hf with ⟨c_1, hf⟩ | ⟨c_1, hf⟩
    · obtain ⟨e1, e2⟩ := pr_some hf
      exact e2 ▸ hm
    · obtain ⟨hk_2, hf⟩ := gd_some hf
      obtain ⟨r_5, st_3, hc_4, hf⟩ := bnd_some hf
      have hm := hm.tr (mo_X7_whyBy F hFm h0 l6 l1 l2 l3 l4 l5 _ _ _ hc_4)
      rcases pif_or hf with ⟨c_6, hf⟩ | ⟨c_6, hf⟩
      · obtain ⟨v_7, ev_7, hf⟩ := nam_some hf
        exact hm.tr (ih l1 l2 l3 l4 l5 v_7 st_3 _ _ hf)
      · obtain ⟨e1, e2⟩ := pr_some hf
        exact e2 ▸ hm
noncomputable def fX7_firstNumber (F : Nat → Int32 → Int32 → Int32 → Int32 → Int32 → CS → Option (Int32 × CS)) (h0 : Nat) (p0 : Option Nat) (p1 : Option Nat) (p2 : Option Nat) (p3 : Int32) (p4 : Int32) (st : CS) : Option (Int32 × CS) := fX7_firstNumber_3 h0 F fuel p0 p1 p2 p3 p4 1 st
set_option maxHeartbeats 1000000 in
theorem mo_X7_firstNumber (F : Nat → Int32 → Int32 → Int32 → Int32 → Int32 → CS → Option (Int32 × CS)) (hFm : ∀ (h0 : Nat) (p0 : Int32) (p1 : Int32) (p2 : Int32) (p3 : Int32) (p4 : Int32) (st : CS) (r : Int32) (st' : CS), F h0 p0 p1 p2 p3 p4 st = some (r, st') → Ke st st') (h0 : Nat) (p0 : Option Nat) (p1 : Option Nat) (p2 : Option Nat) (p3 : Int32) (p4 : Int32) (st : CS) (r : Int32) (st' : CS) (hf : fX7_firstNumber F h0 p0 p1 p2 p3 p4 st = some (r, st')) : Ke st st' := by
  unfold fX7_firstNumber at hf
  have hm : Ke st st := Ke.rf
  exact hm.tr (mo_X7_firstNumber_3 h0 F hFm fuel p0 p1 p2 p3 p4 1 st _ _ hf)
def wq_X7_firstNumber : List Cond := .code yX7_firstNumber cX7_firstNumber 7 (some .int) :: (([.methodLink RX7 27 yX7_whyBy, .instanceMethod yX7_whyBy, .selects RX7 yX7_whyBy yX7_whyBy, .initialized RX7, .code yX7_whyBy cX7_whyBy 10 (some .int), .methodLink RX7 50 yX7_isCrowded, .static yX7_isCrowded, .methodLink RX7 58 yX7_recBreaks, .instanceMethod yX7_recBreaks, .selects RX7 yX7_recBreaks yX7_recBreaks, .methodLink RX7 31 yX1_knownAt, .instanceMethod yX1_knownAt, .selects RX1 yX1_knownAt yX1_knownAt, .initialized RX1, .methodLink RX7 37 yX7_isOtherSort, .static yX7_isOtherSort, .methodLink RX7 41 yX7_isNarrower, .static yX7_isNarrower, .methodLink RX7 44 yX0_hasOtherDefault, .instanceMethod yX0_hasOtherDefault, .selects RX0 yX0_hasOtherDefault yX0_hasOtherDefault, .initialized RX0, .code yX7_isCrowded cX7_isCrowded 7 (some .boolean), .methodLink RX7 69 yX0_sharesGroup, .instanceMethod yX0_sharesGroup, .selects RX0 yX0_sharesGroup yX0_sharesGroup, .code yX1_knownAt cX1_knownAt 3 (some (.object "RecordBench$Field")), .methodLink RX1 21 yX1_fieldAt, .instanceMethod yX1_fieldAt, .selects RX1 yX1_fieldAt yX1_fieldAt, .code yX1_fieldAt cX1_fieldAt 2 (some (.object "RecordBench$Field")), .fieldLink RX1 11 "RecordBench$Make" "fields" "[LRecordBench$Field;", .code yX0_sharesGroup cX0_sharesGroup 2 (some .boolean), .fieldLink RX0 18 "RecordBench$Field" "group" "I", .code yX7_recBreaks cX7_recBreaks 8 (some .boolean), .methodLink RX7 75 yX7_breaks, .instanceMethod yX7_breaks, .selects RX7 yX7_breaks yX7_breaks, .code yX7_breaks cX7_breaks 11 (some .boolean), .fieldLink RX7 9 "RecordBench$Walks" "makes" "[LRecordBench$Make;", .fieldLink RX7 15 "RecordBench$Walks" "seen" "[I", .methodLink RX7 23 yX7_firstNumber, .instanceMethod yX7_firstNumber, .selects RX7 yX7_firstNumber yX7_firstNumber, .static yX8_makeOf, .initialized RX8, .code yX7_isOtherSort cX7_isOtherSort 2 (some .boolean), .methodLink RX7 62 yX0_isOtherSort, .instanceMethod yX0_isOtherSort, .selects RX0 yX0_isOtherSort yX0_isOtherSort, .code yX0_isOtherSort cX0_isOtherSort 2 (some .boolean), .fieldLink RX0 15 "RecordBench$Field" "kind" "I", .methodLink RX0 51 yX0_isNumber, .instanceMethod yX0_isNumber, .selects RX0 yX0_isNumber yX0_isNumber, .code yX0_isNumber cX0_isNumber 1 (some .boolean), .code yX7_isNarrower cX7_isNarrower 2 (some .boolean), .methodLink RX7 64 yX0_isNarrower, .instanceMethod yX0_isNarrower, .selects RX0 yX0_isNarrower yX0_isNarrower, .code yX0_isNarrower cX0_isNarrower 2 (some .boolean), .code yX0_hasOtherDefault cX0_hasOtherDefault 2 (some .boolean), .fieldLink RX0 33 "RecordBench$Field" "value" "J", .fieldLink RX0 30 "RecordBench$Field" "text" "Ljava/lang/String;", .methodLink RX0 55 yJ0_equals_9ea2d, .instanceMethod yJ0_equals_9ea2d, .selects RJ0 yJ0_equals_9ea2d yJ0_equals_9ea2d, .initialized RJ0, .code yJ0_equals_9ea2d cJ0_equals_9ea2d 3 (some .boolean), .classLink RJ0 10 "java/lang/String", .fieldLink RJ0 38 "java/lang/String" "COMPACT_STRINGS" "Z", .fieldLink RJ0 15 "java/lang/String" "coder" "B", .fieldLink RJ0 9 "java/lang/String" "value" "[B", .methodLink RJ0 541 yJ1_equals_b5fdf, .static yJ1_equals_b5fdf, .initialized RJ1, .code yJ1_equals_b5fdf cJ1_equals_b5fdf 3 (some .boolean), .code yX8_makeOf cX8_makeOf 2 (some (.object "RecordBench$Make"))] : List Cond) ++ wsX00 ++ wsX10 ++ wsX70 ++ wsJ00)
theorem gs_wq_X7_firstNumber_wsX00 : GoodIn wq_X7_firstNumber wsX00 := fun w h => ⟨List.mem_cons_of_mem _ (List.mem_append_left _ (List.mem_append_left _ (List.mem_append_left _ (List.mem_append_right _ h)))), (gt_wsX00 w h).2⟩
theorem gs_wq_X7_firstNumber_wsX10 : GoodIn wq_X7_firstNumber wsX10 := fun w h => ⟨List.mem_cons_of_mem _ (List.mem_append_left _ (List.mem_append_left _ (List.mem_append_right _ h))), (gt_wsX10 w h).2⟩
theorem gs_wq_X7_firstNumber_wsX70 : GoodIn wq_X7_firstNumber wsX70 := fun w h => ⟨List.mem_cons_of_mem _ (List.mem_append_left _ (List.mem_append_right _ h)), (gt_wsX70 w h).2⟩
theorem gs_wq_X7_firstNumber_wsJ00 : GoodIn wq_X7_firstNumber wsJ00 := fun w h => ⟨List.mem_cons_of_mem _ (List.mem_append_right _ h), (gt_wsJ00 w h).2⟩
set_option maxRecDepth 20000 in
theorem gq_X7_firstNumber_X7_whyBy_27 : GoodIn wq_X7_firstNumber (wsV RX7 27 RX7 yX7_whyBy wq_X7_whyBy) := goodIn_app (goodIn_r _ [1, 2, 3, 4] rfl rfl) (goodIn_ca (goodIn_ca (goodIn_ca (goodIn_ca (goodIn_r _ [5, 6, 7, 4, 8, 9, 10, 11, 12, 13, 14, 15, 16, 17, 18, 19, 20, 21, 22, 23, 24, 25, 26, 27, 28, 29, 30, 31, 32, 33, 34, 35, 36, 37, 38, 39, 40, 41, 42, 43, 44, 45, 46, 0, 1, 2, 3, 47, 48, 49, 50, 51, 52, 53, 54, 55, 56, 57, 58, 59, 60, 61, 62, 63, 64, 65, 66, 67, 68, 69, 70, 71, 72, 73, 74, 75, 76, 77, 78] rfl rfl) gs_wq_X7_firstNumber_wsX00) gs_wq_X7_firstNumber_wsX10) gs_wq_X7_firstNumber_wsX70) gs_wq_X7_firstNumber_wsJ00)
set_option maxHeartbeats 4000000 in
set_option maxRecDepth 100000 in
theorem c_X7_firstNumber (l : Launch) (dC : Nat → ClassId) (dI : Nat → Nat → Nat) (ka ad : Nat → Nat) (ct : Nat → ClassId) (F : Nat → Int32 → Int32 → Int32 → Int32 → Int32 → CS → Option (Int32 × CS)) (hFm : ∀ (h0 : Nat) (p0 : Int32) (p1 : Int32) (p2 : Int32) (p3 : Int32) (p4 : Int32) (st : CS) (r : Int32) (st' : CS), F h0 p0 p1 p2 p3 p4 st = some (r, st') → Ke st st') (fr lo : Nat) (hF : ∀ (h0 : Nat) (p0 : Int32) (p1 : Int32) (p2 : Int32) (p3 : Int32) (p4 : Int32) (st st' : CS) (r : Int32) (hf : F h0 p0 p1 p2 p3 p4 st = some (r, st')) (sz : Nat), Met l yX7_breaks wq_X7_breaks ({ frames := fr, cells := 0, slots := 0, locals := lo }) (va_Pc [.ref (ad h0), .int p0, .int p1, .int p2, .int p3, .int p4] (PrC (dC, dI) ct ka ad st sz)) (va_Qi (fun r' (_ : Unit) => r' = r) (fun _ => CB (dC, dI) ct ka ad st' (aC ad st sz)) (aC ad st sz)) 0 0 (aC ad st sz)) (h0 : Nat) (p0 : Option Nat) (p1 : Option Nat) (p2 : Option Nat) (p3 : Int32) (p4 : Int32) (st st' : CS) (r : Int32) (hf : fX7_firstNumber F h0 p0 p1 p2 p3 p4 st = some (r, st')) (sz : Nat) : Met l yX7_firstNumber wq_X7_firstNumber ({ frames := fr + 4, cells := 0, slots := 0, locals := lo + 114 }) (va_Pc [.ref (ad h0), va_rf (Option.map ad p0), va_rf (Option.map ad p1), va_rf (Option.map ad p2), .int p3, .int p4] (PrC (dC, dI) ct ka ad st sz)) (va_Qi (fun r' (_ : Unit) => r' = r) (fun _ => CB (dC, dI) ct ka ad st' (aC ad st sz)) (aC ad st sz)) 0 0 (aC ad st sz) := by
  refine Met.ofW (cc := cX7_firstNumber) (maxL := 7) (ret := (some .int)) (by decide) rfl ?_
  intro p e s m args below meth c s₁ B hml hv
  obtain ⟨rfl, hsz, hw0, hK, hN, hZ, hC, hR, hL, hw1, hw2⟩ := hv
  have hx := B.exec
  have hb := B.bytes
  have hr := B.returns
  have hts := atoms_spec (ws := wq_X7_firstNumber) B.pre
  have hown : s.vm.findClass RX7 = some m.cls := findClass_of_methodNamed B.named
  subst hsz
  have hp : Cp (dC, dI) ka ad ct (aC ad st s.heap.size) s.heap st s.heap [] := ⟨fun i a b => ⟨hw0 i a b, Or.inl ⟨i, a, b, rfl⟩⟩, va_S.rf, hw1, hw2⟩
  generalize hAe : aC ad st s.heap.size = A at hp hZ hC ⊢
  have hA : ∀ q : Nat, s.heap.size ≤ q → A q := fun q h => by rw [← hAe]; exact Or.inr h
  have hl := lv_entry ([.ref (ad h0), va_rf (Option.map ad p0), va_rf (Option.map ad p1), va_rf (Option.map ad p2), .int p3, .int p4]) (n := 7) (by simp [lg_sl, rf_cat, vc_i, vc_l, vc_r, vc_n])
  rw [lg_entry_eq]
  generalize (lg_sl ([.ref (ad h0), va_rf (Option.map ad p0), va_rf (Option.map ad p1), va_rf (Option.map ad p2), .int p3, .int p4]) ++ List.replicate (7 - (lg_sl ([.ref (ad h0), va_rf (Option.map ad p0), va_rf (Option.map ad p1), va_rf (Option.map ad p2), .int p3, .int p4])).length) Slot.unset).toArray = ls at hl ⊢
  have hl : lv_has ls 7 [(0, .ref (ad h0)), (1, va_rf (Option.map ad p0)), (2, va_rf (Option.map ad p1)), (3, va_rf (Option.map ad p2)), (4, .int p3), (5, .int p4)] := by simpa [lv_args, rf_cat, vc_i, vc_l, vc_r, vc_n] using hl
  refine W_lp (fun n3 (u : (Option Nat) × (Option Nat) × (Option Nat) × Int32 × Int32 × Int32 × CS) H locs ls => match u with | (l1, l2, l3, l4, l5, l6, gs) => fX7_firstNumber_3 h0 F n3 l1 l2 l3 l4 l5 l6 gs = some (r, st') ∧ Cp (dC, dI) ka ad ct A s.heap gs H locs ∧ lv_has ls 7 [(0, .ref (ad h0)), (1, va_rf (Option.map ad l1)), (2, va_rf (Option.map ad l2)), (3, va_rf (Option.map ad l3)), (4, .int l4), (5, .int l5), (6, .int l6)]) (fun (u : (Option Nat) × (Option Nat) × (Option Nat) × Int32 × Int32 × Int32 × CS) ls => match u with | (l1, l2, l3, l4, l5, l6, gs) => F0 m 3 ls []) ?_ ?_ (fun J3 => ?_)
  · intro u H locs ls hu
    obtain ⟨l1, l2, l3, l4, l5, l6, gs⟩ := u
    obtain ⟨hf, hp, hl⟩ := hu
    rw [fX7_firstNumber_3_z] at hf
    cases hf
  · intro n3 ih3 u H locs ls hu
    obtain ⟨l1, l2, l3, l4, l5, l6, gs⟩ := u
    obtain ⟨hf, hp, hl⟩ := hu
    show W p l e _ s m _ below meth c _ _ _ _ _ (F0 m 3 ls [])
    rw [fX7_firstNumber_3_s] at hf
    refine lv_iload hx hb dX7_firstNumber_3 (lv_at hl 6 rfl) ?_
    refine lv_bipush (v := 30) hx hb dX7_firstNumber_5 (by decide) ?_
    refine lv_icmp_gt (tgt := 35) hx hb dX7_firstNumber_7 (by decide) (fun c_1 => ?_) (fun c_1 => ?_)
    · have hf := pif_t c_1 hf
      refine lv_iconst (v := 0) hx hb dX7_firstNumber_35 (by decide) ?_
      obtain ⟨e1, e2⟩ := pr_some hf
      exact W.iret (v := 0) hx hb hr (fun t ht hW => ⟨⟨0, (), rfl, e1, Cp.end e2 hp ht⟩, hp.2.1.F ht⟩) hp.2.1.2.2 dX7_firstNumber_36
    · have hf := pif_f c_1 hf
      refine lv_aload_n hx hb dX7_firstNumber_10 rfl (lv_at hl 0 rfl) ?_
      refine lv_iload hx hb dX7_firstNumber_11 (lv_at hl 6 rfl) ?_
      refine o_aload_n hx hb dX7_firstNumber_13 rfl (lv_at hl 1 rfl) ?_
      refine o_aload_n hx hb dX7_firstNumber_14 rfl (lv_at hl 2 rfl) ?_
      refine o_aload_n hx hb dX7_firstNumber_15 rfl (lv_at hl 3 rfl) ?_
      refine lv_iload hx hb dX7_firstNumber_16 (lv_at hl 4 rfl) ?_
      refine lv_iload hx hb dX7_firstNumber_18 (lv_at hl 5 rfl) ?_
      obtain ⟨hk_2, hf⟩ := gd_some hf
      obtain ⟨r_5, st_3, hc_4, hf⟩ := bnd_some hf
      refine q_ci hp hA (va_runV (As := [.int l6, va_rf (Option.map ad l1), va_rf (Option.map ad l2), va_rf (Option.map ad l3), .int l4, .int l5]) (rest := []) ⟨hx, hb, hml, hown, hts⟩ (c_X7_whyBy l dC dI ka ad ct F hFm fr lo hF h0 l6 l1 l2 l3 l4 l5 _ _ _ hc_4 _) (cwV 6 hts gq_X7_firstNumber_X7_whyBy_27 rfl rfl rfl (by decide +kernel) ⟨by show fr + 3 + 1 ≤ fr + 4; omega, by show 8 + (10 + 11) + (lo + 81) ≤ lo + 114; omega⟩) ⟨PrC.blind _, q_rv9 hK hp hC hk_2, q_pre hp hK hN hZ hC hR hL hA⟩ rfl rfl hl.1 rfl (lv_room (Nat.le_of_ble_eq_true rfl)) dX7_firstNumber_20 ⟨Nat.le_of_ble_eq_true rfl, Nat.le_of_ble_eq_true rfl⟩) (fun H locs hp => ?_)
      have hk_2 : qk st_3 h0 = 10 := by rw [(mo_X7_whyBy F hFm h0 l6 l1 l2 l3 l4 l5 _ _ _ hc_4).2.2.1]; exact hk_2
      refine lv_if_eq (tgt := 29) hx hb dX7_firstNumber_23 (by decide) (fun c_6 => ?_) (fun c_6 => ?_)
      · have hf := pif_t c_6 hf
        obtain ⟨v_7, ev_7, hf⟩ := nam_some hf
        refine lv_iinc (v := v_7) (lv' := [(6, .int v_7), (0, .ref (ad h0)), (1, va_rf (Option.map ad l1)), (2, va_rf (Option.map ad l2)), (3, va_rf (Option.map ad l3)), (4, .int l4), (5, .int l5)]) hx hb dX7_firstNumber_29 hl (k := 6) rfl ev_7.symm (by decide) rfl (fun ls hl => ?_)
        refine lv_goto (tgt := 3) hx hb dX7_firstNumber_32 (by decide) ?_
        exact ih3 (l1, l2, l3, l4, l5, v_7, st_3) _ _ _ ⟨hf, hp, (lv_sub hl [1, 2, 3, 4, 5, 6, 0] rfl)⟩
      · have hf := pif_f c_6 hf
        refine lv_iload hx hb dX7_firstNumber_26 (lv_at hl 6 rfl) ?_
        obtain ⟨e1, e2⟩ := pr_some hf
        exact W.iret (v := l6) hx hb hr (fun t ht hW => ⟨⟨l6, (), rfl, e1, Cp.end e2 hp ht⟩, hp.2.1.F ht⟩) hp.2.1.2.2 dX7_firstNumber_28
  unfold fX7_firstNumber at hf
  refine lv_iconst (v := 1) hx hb dX7_firstNumber_0 (by decide) ?_
  refine lv_istore (i := 6) (lv' := [(6, .int 1), (0, .ref (ad h0)), (1, va_rf (Option.map ad p0)), (2, va_rf (Option.map ad p1)), (3, va_rf (Option.map ad p2)), (4, .int p3), (5, .int p4)]) hx hb dX7_firstNumber_1 hl (by decide) rfl (fun ls hl => ?_)
  exact J3 fuel (p0, p1, p2, p3, p4, 1, st) _ _ _ ⟨hf, hp, (lv_sub hl [1, 2, 3, 4, 5, 6, 0] rfl)⟩
noncomputable def fX7_breaks_153 (h0 : Nat) (F : Nat → Int32 → Int32 → Int32 → Int32 → Int32 → CS → Option (Int32 × CS))  (l9 : Int32) (gs : CS) : Option (Int32 × CS) := gd (qk gs h0 = 10) (ono (qP gs h0 1) (fun a_2 => gd (qk gs a_2 = 21) (gd (vp_in l9 (ql gs a_2)) (pif ((qI gs a_2 l9.toNatClampNeg) = 2) (some ((1 : Int32), gs)) (some ((0 : Int32), gs))))))
set_option maxHeartbeats 1000000 in
theorem mo_X7_breaks_153 (h0 : Nat) (F : Nat → Int32 → Int32 → Int32 → Int32 → Int32 → CS → Option (Int32 × CS))   (hFm : ∀ (h0 : Nat) (p0 : Int32) (p1 : Int32) (p2 : Int32) (p3 : Int32) (p4 : Int32) (st : CS) (r : Int32) (st' : CS), F h0 p0 p1 p2 p3 p4 st = some (r, st') → Ke st st') (l9 : Int32) (gs : CS) (r : Int32) (st' : CS) (hf : fX7_breaks_153 h0 F l9 gs = some (r, st')) : Ke gs st' := by
  unfold fX7_breaks_153 at hf
  have hm : Ke gs gs := Ke.rf
  obtain ⟨hk_1, hf⟩ := gd_some hf
  obtain ⟨a_2, ha_3, hf⟩ := ono_some hf
  obtain ⟨hk_4, hf⟩ := gd_some hf
  obtain ⟨g_5, hf⟩ := gd_some hf
  rcases pif_or hf with ⟨c_6, hf⟩ | ⟨c_6, hf⟩
  · obtain ⟨e1, e2⟩ := pr_some hf
    exact e2 ▸ hm
  · obtain ⟨e1, e2⟩ := pr_some hf
    exact e2 ▸ hm
noncomputable def fX7_breaks_152 (h0 : Nat) (F : Nat → Int32 → Int32 → Int32 → Int32 → Int32 → CS → Option (Int32 × CS))  (l9 : Int32) (s0 : Int32) (s1 : Int32) (s2 : Option Nat) (gs : CS) : Option (Int32 × CS) := ono s2 (fun a_7 => gd (qk gs a_7 = 21) (gd (vp_in s1 (ql gs a_7)) (nam (wI gs a_7 s1.toNatClampNeg s0) (fun st_11 => fX7_breaks_153 h0 F l9 st_11))))
set_option maxHeartbeats 1000000 in
theorem mo_X7_breaks_152 (h0 : Nat) (F : Nat → Int32 → Int32 → Int32 → Int32 → Int32 → CS → Option (Int32 × CS))   (hFm : ∀ (h0 : Nat) (p0 : Int32) (p1 : Int32) (p2 : Int32) (p3 : Int32) (p4 : Int32) (st : CS) (r : Int32) (st' : CS), F h0 p0 p1 p2 p3 p4 st = some (r, st') → Ke st st') (l9 : Int32) (s0 : Int32) (s1 : Int32) (s2 : Option Nat) (gs : CS) (r : Int32) (st' : CS) (hf : fX7_breaks_152 h0 F l9 s0 s1 s2 gs = some (r, st')) : Ke gs st' := by
  unfold fX7_breaks_152 at hf
  have hm : Ke gs gs := Ke.rf
  obtain ⟨a_7, ha_8, hf⟩ := ono_some hf
  obtain ⟨hk_9, hf⟩ := gd_some hf
  obtain ⟨g_10, hf⟩ := gd_some hf
  obtain ⟨st_11, est_11, hf⟩ := nam_some hf
  have hm := hm.wI est_11
  exact hm.tr (mo_X7_breaks_153 h0 F hFm l9 st_11 _ _ hf)
noncomputable def fX7_breaks_134 (h0 : Nat) (F : Nat → Int32 → Int32 → Int32 → Int32 → Int32 → CS → Option (Int32 × CS))  (l9 : Int32) (s0 : Int32) (gs : CS) : Option (Int32 × CS) := gd (qk gs h0 = 10) (pif (s0 = 0) (fX7_breaks_152 h0 F l9 1 l9 (qP gs h0 1) gs) (fX7_breaks_152 h0 F l9 2 l9 (qP gs h0 1) gs))
set_option maxHeartbeats 1000000 in
theorem mo_X7_breaks_134 (h0 : Nat) (F : Nat → Int32 → Int32 → Int32 → Int32 → Int32 → CS → Option (Int32 × CS))   (hFm : ∀ (h0 : Nat) (p0 : Int32) (p1 : Int32) (p2 : Int32) (p3 : Int32) (p4 : Int32) (st : CS) (r : Int32) (st' : CS), F h0 p0 p1 p2 p3 p4 st = some (r, st') → Ke st st') (l9 : Int32) (s0 : Int32) (gs : CS) (r : Int32) (st' : CS) (hf : fX7_breaks_134 h0 F l9 s0 gs = some (r, st')) : Ke gs st' := by
  unfold fX7_breaks_134 at hf
  have hm : Ke gs gs := Ke.rf
  obtain ⟨hk_12, hf⟩ := gd_some hf
  rcases pif_or hf with ⟨c_13, hf⟩ | ⟨c_13, hf⟩
  · exact hm.tr (mo_X7_breaks_152 h0 F hFm l9 1 l9 (qP gs h0 1) gs _ _ hf)
  · exact hm.tr (mo_X7_breaks_152 h0 F hFm l9 2 l9 (qP gs h0 1) gs _ _ hf)
noncomputable def fX7_breaks_82 (h0 : Nat) (F : Nat → Int32 → Int32 → Int32 → Int32 → Int32 → CS → Option (Int32 × CS))  (l4 : Int32) (l5 : Int32) (l6 : Option Nat) (l7 : Option Nat) (l8 : Option Nat) (s0 : Int32) (s1 : Int32) (gs : CS) : Option (Int32 × CS) := nam (s1 + s0) (fun v_14 => pif (v_14 < 0) (some ((0 : Int32), gs)) (gd (qk gs h0 = 10) (ono (qP gs h0 1) (fun a_17 => gd (qk gs a_17 = 21) (pif (v_14 < (nI (ql gs a_17))) (gd (vp_in v_14 (ql gs a_17)) (pif ((qI gs a_17 v_14.toNatClampNeg) = 0) (bnd (fX7_firstNumber F h0 l6 l7 l8 l4 l5 gs) (fun r_25 st_23 => pif (r_25 = 0) (fX7_breaks_134 h0 F v_14 0 st_23) (fX7_breaks_134 h0 F v_14 1 st_23))) (fX7_breaks_153 h0 F v_14 gs))) (some ((0 : Int32), gs)))))))
set_option maxHeartbeats 1000000 in
theorem mo_X7_breaks_82 (h0 : Nat) (F : Nat → Int32 → Int32 → Int32 → Int32 → Int32 → CS → Option (Int32 × CS))   (hFm : ∀ (h0 : Nat) (p0 : Int32) (p1 : Int32) (p2 : Int32) (p3 : Int32) (p4 : Int32) (st : CS) (r : Int32) (st' : CS), F h0 p0 p1 p2 p3 p4 st = some (r, st') → Ke st st') (l4 : Int32) (l5 : Int32) (l6 : Option Nat) (l7 : Option Nat) (l8 : Option Nat) (s0 : Int32) (s1 : Int32) (gs : CS) (r : Int32) (st' : CS) (hf : fX7_breaks_82 h0 F l4 l5 l6 l7 l8 s0 s1 gs = some (r, st')) : Ke gs st' := by
  unfold fX7_breaks_82 at hf
  have hm : Ke gs gs := Ke.rf
  obtain ⟨v_14, ev_14, hf⟩ := nam_some hf
  rcases pif_or hf with ⟨c_15, hf⟩ | ⟨c_15, hf⟩
  · obtain ⟨e1, e2⟩ := pr_some hf
    exact e2 ▸ hm
  · obtain ⟨hk_16, hf⟩ := gd_some hf
    obtain ⟨a_17, ha_18, hf⟩ := ono_some hf
    obtain ⟨hk_19, hf⟩ := gd_some hf
    rcases pif_or hf with ⟨c_20, hf⟩ | ⟨c_20, hf⟩
    · obtain ⟨g_21, hf⟩ := gd_some hf
      rcases pif_or hf with ⟨c_22, hf⟩ | ⟨c_22, hf⟩
      · obtain ⟨r_25, st_23, hc_24, hf⟩ := bnd_some hf
        have hm := hm.tr (mo_X7_firstNumber F hFm h0 l6 l7 l8 l4 l5 _ _ _ hc_24)
        rcases pif_or hf with ⟨c_26, hf⟩ | ⟨c_26, hf⟩
        · exact hm.tr (mo_X7_breaks_134 h0 F hFm v_14 0 st_23 _ _ hf)
        · exact hm.tr (mo_X7_breaks_134 h0 F hFm v_14 1 st_23 _ _ hf)
      · exact hm.tr (mo_X7_breaks_153 h0 F hFm v_14 gs _ _ hf)
    · obtain ⟨e1, e2⟩ := pr_some hf
      exact e2 ▸ hm
noncomputable def fX7_breaks (F : Nat → Int32 → Int32 → Int32 → Int32 → Int32 → CS → Option (Int32 × CS)) (h0 : Nat) (p0 : Int32) (p1 : Int32) (p2 : Int32) (p3 : Int32) (p4 : Int32) (st : CS) : Option (Int32 × CS) := gd (qk st h0 = 10) (bnd (fX8_makeOf (qP st h0 0) p0 st) (fun r_30 st_28 => bnd (fX8_makeOf (qP st_28 h0 0) p1 st_28) (fun r_33 st_31 => bnd (fX8_makeOf (qP st_31 h0 0) p2 st_31) (fun r_36 st_34 => pif (r_30 = none) (some ((0 : Int32), st_34)) (pif (r_33 = none) (some ((0 : Int32), st_34)) (pif (r_36 = none) (some ((0 : Int32), st_34)) (pif (p4 < 0) (some ((0 : Int32), st_34)) (pif (p4 ≤ 8) (pif (p3 = 0) (fX7_breaks_82 h0 F p3 p4 r_30 r_33 r_36 0 (((((p0 * 8) + p1) * 8) + p2) * 2) st_34) (fX7_breaks_82 h0 F p3 p4 r_30 r_33 r_36 1 (((((p0 * 8) + p1) * 8) + p2) * 2) st_34)) (some ((0 : Int32), st_34))))))))))
set_option maxHeartbeats 1000000 in
theorem mo_X7_breaks (F : Nat → Int32 → Int32 → Int32 → Int32 → Int32 → CS → Option (Int32 × CS)) (hFm : ∀ (h0 : Nat) (p0 : Int32) (p1 : Int32) (p2 : Int32) (p3 : Int32) (p4 : Int32) (st : CS) (r : Int32) (st' : CS), F h0 p0 p1 p2 p3 p4 st = some (r, st') → Ke st st') (h0 : Nat) (p0 : Int32) (p1 : Int32) (p2 : Int32) (p3 : Int32) (p4 : Int32) (st : CS) (r : Int32) (st' : CS) (hf : fX7_breaks F h0 p0 p1 p2 p3 p4 st = some (r, st')) : Ke st st' := by
  unfold fX7_breaks at hf
  have hm : Ke st st := Ke.rf
  obtain ⟨hk_27, hf⟩ := gd_some hf
  obtain ⟨r_30, st_28, hc_29, hf⟩ := bnd_some hf
  have hm := hm.tr (mo_X8_makeOf (qP st h0 0) p0 _ _ _ hc_29)
  obtain ⟨r_33, st_31, hc_32, hf⟩ := bnd_some hf
  have hm := hm.tr (mo_X8_makeOf (qP st_28 h0 0) p1 _ _ _ hc_32)
  obtain ⟨r_36, st_34, hc_35, hf⟩ := bnd_some hf
  have hm := hm.tr (mo_X8_makeOf (qP st_31 h0 0) p2 _ _ _ hc_35)
  rcases pif_or hf with ⟨c_37, hf⟩ | ⟨c_37, hf⟩
  · obtain ⟨e1, e2⟩ := pr_some hf
    exact e2 ▸ hm
  · rcases pif_or hf with ⟨c_38, hf⟩ | ⟨c_38, hf⟩
    · obtain ⟨e1, e2⟩ := pr_some hf
      exact e2 ▸ hm
    · rcases pif_or hf with ⟨c_39, hf⟩ | ⟨c_39, hf⟩
      · obtain ⟨e1, e2⟩ := pr_some hf
        exact e2 ▸ hm
      · rcases pif_or hf with ⟨c_40, hf⟩ | ⟨c_40, hf⟩
        · obtain ⟨e1, e2⟩ := pr_some hf
          exact e2 ▸ hm
        · rcases pif_or hf with ⟨c_41, hf⟩ | ⟨c_41, hf⟩
          · rcases pif_or hf with ⟨c_42, hf⟩ | ⟨c_42, hf⟩
            · exact hm.tr (mo_X7_breaks_82 h0 F hFm p3 p4 r_30 r_33 r_36 0 (((((p0 * 8) + p1) * 8) + p2) * 2) st_34 _ _ hf)
            · exact hm.tr (mo_X7_breaks_82 h0 F hFm p3 p4 r_30 r_33 r_36 1 (((((p0 * 8) + p1) * 8) + p2) * 2) st_34 _ _ hf)
          · obtain ⟨e1, e2⟩ := pr_some hf
            exact e2 ▸ hm
theorem gs_wq_X7_breaks_wsX00 : GoodIn wq_X7_breaks wsX00 := fun w h => ⟨List.mem_cons_of_mem _ (List.mem_append_left _ (List.mem_append_left _ (List.mem_append_right _ h))), (gt_wsX00 w h).2⟩
theorem gs_wq_X7_breaks_wsX10 : GoodIn wq_X7_breaks wsX10 := fun w h => ⟨List.mem_cons_of_mem _ (List.mem_append_left _ (List.mem_append_right _ h)), (gt_wsX10 w h).2⟩
theorem gs_wq_X7_breaks_wsX70 : GoodIn wq_X7_breaks wsX70 := fun w h => ⟨List.mem_cons_of_mem _ (List.mem_append_left _ (List.mem_append_left _ (List.mem_append_left _ (List.mem_append_right _ h)))), (gt_wsX70 w h).2⟩
theorem gs_wq_X7_breaks_wsJ00 : GoodIn wq_X7_breaks wsJ00 := fun w h => ⟨List.mem_cons_of_mem _ (List.mem_append_right _ h), (gt_wsJ00 w h).2⟩
set_option maxRecDepth 20000 in
theorem gq_X7_breaks_X7_firstNumber_23 : GoodIn wq_X7_breaks (wsV RX7 23 RX7 yX7_firstNumber wq_X7_firstNumber) := goodIn_app (goodIn_r _ [3, 4, 5, 6] rfl rfl) (goodIn_ca (goodIn_ca (goodIn_ca (goodIn_ca (goodIn_r _ [9, 10, 11, 12, 6, 13, 14, 15, 16, 17, 18, 19, 20, 21, 22, 23, 24, 25, 26, 27, 28, 29, 30, 31, 32, 33, 34, 35, 36, 37, 38, 39, 40, 41, 42, 43, 44, 45, 46, 0, 1, 2, 3, 4, 5, 7, 8, 47, 48, 49, 50, 51, 52, 53, 54, 55, 56, 57, 58, 59, 60, 61, 62, 63, 64, 65, 66, 67, 68, 69, 70, 71, 72, 73, 74, 75, 76, 77, 78] rfl rfl) gs_wq_X7_breaks_wsX00) gs_wq_X7_breaks_wsX10) gs_wq_X7_breaks_wsX70) gs_wq_X7_breaks_wsJ00)
set_option maxRecDepth 20000 in
theorem gq_X7_breaks_X8_makeOf_19 : GoodIn wq_X7_breaks (wq_X8_makeOf) := (goodIn_r _ [78] rfl rfl)
set_option maxHeartbeats 4000000 in
set_option maxRecDepth 100000 in
theorem c_X7_breaks (l : Launch) (dC : Nat → ClassId) (dI : Nat → Nat → Nat) (ka ad : Nat → Nat) (ct : Nat → ClassId) (F : Nat → Int32 → Int32 → Int32 → Int32 → Int32 → CS → Option (Int32 × CS)) (hFm : ∀ (h0 : Nat) (p0 : Int32) (p1 : Int32) (p2 : Int32) (p3 : Int32) (p4 : Int32) (st : CS) (r : Int32) (st' : CS), F h0 p0 p1 p2 p3 p4 st = some (r, st') → Ke st st') (fr lo : Nat) (hF : ∀ (h0 : Nat) (p0 : Int32) (p1 : Int32) (p2 : Int32) (p3 : Int32) (p4 : Int32) (st st' : CS) (r : Int32) (hf : F h0 p0 p1 p2 p3 p4 st = some (r, st')) (sz : Nat), Met l yX7_breaks wq_X7_breaks ({ frames := fr, cells := 0, slots := 0, locals := lo }) (va_Pc [.ref (ad h0), .int p0, .int p1, .int p2, .int p3, .int p4] (PrC (dC, dI) ct ka ad st sz)) (va_Qi (fun r' (_ : Unit) => r' = r) (fun _ => CB (dC, dI) ct ka ad st' (aC ad st sz)) (aC ad st sz)) 0 0 (aC ad st sz)) (h0 : Nat) (p0 : Int32) (p1 : Int32) (p2 : Int32) (p3 : Int32) (p4 : Int32) (st st' : CS) (r : Int32) (hf : fX7_breaks F h0 p0 p1 p2 p3 p4 st = some (r, st')) (sz : Nat) : Met l yX7_breaks wq_X7_breaks ({ frames := fr + 5, cells := 0, slots := 0, locals := lo + 144 }) (va_Pc [.ref (ad h0), .int p0, .int p1, .int p2, .int p3, .int p4] (PrC (dC, dI) ct ka ad st sz)) (va_Qi (fun r' (_ : Unit) => r' = r) (fun _ => CB (dC, dI) ct ka ad st' (aC ad st sz)) (aC ad st sz)) 0 0 (aC ad st sz) := by
  refine Met.ofW (cc := cX7_breaks) (maxL := 11) (ret := (some .boolean)) (by decide) rfl ?_
  intro p e s m args below meth c s₁ B hml hv
  obtain ⟨rfl, hsz, hw0, hK, hN, hZ, hC, hR, hL, hw1, hw2⟩ := hv
  have hx := B.exec
  have hb := B.bytes
  have hr := B.returns
  have hts := atoms_spec (ws := wq_X7_breaks) B.pre
  have hown : s.vm.findClass RX7 = some m.cls := findClass_of_methodNamed B.named
  have iRX7 : ∀ w ∈ u_ws RX7 TX7 2, w ∈ wq_X7_breaks := fun w h => List.mem_cons_of_mem _ (List.mem_append_left _ (List.mem_append_left _ (List.mem_append_left _ (List.mem_append_right _ h))))
  subst hsz
  have hp : Cp (dC, dI) ka ad ct (aC ad st s.heap.size) s.heap st s.heap [] := ⟨fun i a b => ⟨hw0 i a b, Or.inl ⟨i, a, b, rfl⟩⟩, va_S.rf, hw1, hw2⟩
  generalize hAe : aC ad st s.heap.size = A at hp hZ hC ⊢
  have hA : ∀ q : Nat, s.heap.size ≤ q → A q := fun q h => by rw [← hAe]; exact Or.inr h
  have hl := lv_entry ([.ref (ad h0), .int p0, .int p1, .int p2, .int p3, .int p4]) (n := 11) (Nat.le_of_ble_eq_true rfl)
  rw [lg_entry_eq]
  generalize (lg_sl ([.ref (ad h0), .int p0, .int p1, .int p2, .int p3, .int p4]) ++ List.replicate (11 - (lg_sl ([.ref (ad h0), .int p0, .int p1, .int p2, .int p3, .int p4])).length) Slot.unset).toArray = ls at hl ⊢
  have hl : lv_has ls 11 [(0, .ref (ad h0)), (1, .int p0), (2, .int p1), (3, .int p2), (4, .int p3), (5, .int p4)] := hl
  refine W_blk (fun (u : Int32 × CS) H locs ls => match u with | (l9, gs) => fX7_breaks_153 h0 F l9 gs = some (r, st') ∧ Cp (dC, dI) ka ad ct A s.heap gs H locs ∧ lv_has ls 11 [(0, .ref (ad h0)), (9, .int l9)]) (fun (u : Int32 × CS) ls => match u with | (l9, gs) => F0 m 153 ls []) ?_ (fun J153 => ?_)
  · intro u H locs ls hu
    obtain ⟨l9, gs⟩ := u
    obtain ⟨hf, hp, hl⟩ := hu
    show W p l e _ s m _ below meth c _ _ _ _ _ (F0 m 153 ls [])
    unfold fX7_breaks_153 at hf
    refine lv_aload_n hx hb dX7_breaks_153 rfl (lv_at hl 0 rfl) ?_
    obtain ⟨hk_1, hf⟩ := gd_some hf
    refine q_gp (ci := 9) (C := RX7) (T := TX7) (N := 2) (k := 1) hx hb hts iRX7 hown hK hp hk_1 (by decide) rfl rfl (by decide) rfl (Or.inl (hts (.fieldLink RX7 15 "RecordBench$Walks" "seen" "[I") (by decide +kernel))) (fun _ h9 => h9) dX7_breaks_154 ?_
    refine lv_iload hx hb dX7_breaks_157 (lv_at hl 1 rfl) ?_
    obtain ⟨a_2, ha_3, hf⟩ := ono_some hf
    refine o_at1 ha_3 ?_
    obtain ⟨hk_4, hf⟩ := gd_some hf
    obtain ⟨g_5, hf⟩ := gd_some hf
    refine q_ai hx hb hK hp hk_4 g_5 dX7_breaks_159 ?_
    refine lv_iconst (v := 2) hx hb dX7_breaks_160 (by decide) ?_
    refine lv_icmp_ne (tgt := 168) hx hb dX7_breaks_161 (by decide) (fun c_6 => ?_) (fun c_6 => ?_)
    · have hf := pif_f c_6 hf
      refine lv_iconst (v := 0) hx hb dX7_breaks_168 (by decide) ?_
      obtain ⟨e1, e2⟩ := pr_some hf
      exact W.zret (v := 0) hx hb hr rfl (fun t ht hW => ⟨⟨0, (), rfl, e1, Cp.end e2 hp ht⟩, hp.2.1.F ht⟩) hp.2.1.2.2 dX7_breaks_169
    · have hf := pif_t c_6 hf
      refine lv_iconst (v := 1) hx hb dX7_breaks_164 (by decide) ?_
      refine lv_goto (tgt := 169) hx hb dX7_breaks_165 (by decide) ?_
      obtain ⟨e1, e2⟩ := pr_some hf
      exact W.zret (v := 1) hx hb hr rfl (fun t ht hW => ⟨⟨1, (), rfl, e1, Cp.end e2 hp ht⟩, hp.2.1.F ht⟩) hp.2.1.2.2 dX7_breaks_169
  refine W_blk (fun (u : Int32 × Int32 × Int32 × (Option Nat) × CS) H locs ls => match u with | (l9, s0, s1, s2, gs) => fX7_breaks_152 h0 F l9 s0 s1 s2 gs = some (r, st') ∧ Cp (dC, dI) ka ad ct A s.heap gs H locs ∧ lv_has ls 11 [(0, .ref (ad h0)), (9, .int l9)]) (fun (u : Int32 × Int32 × Int32 × (Option Nat) × CS) ls => match u with | (l9, s0, s1, s2, gs) => F0 m 152 ls [.int s0, .int s1, va_rf (Option.map ad s2)]) ?_ (fun J152 => ?_)
  · intro u H locs ls hu
    obtain ⟨l9, s0, s1, s2, gs⟩ := u
    obtain ⟨hf, hp, hl⟩ := hu
    show W p l e _ s m _ below meth c _ _ _ _ _ (F0 m 152 ls [.int s0, .int s1, va_rf (Option.map ad s2)])
    unfold fX7_breaks_152 at hf
    obtain ⟨a_7, ha_8, hf⟩ := ono_some hf
    refine o_at2 ha_8 ?_
    obtain ⟨hk_9, hf⟩ := gd_some hf
    obtain ⟨g_10, hf⟩ := gd_some hf
    refine q_si hx hb hK hp hk_9 g_10 dX7_breaks_152 (fun H locs hp => ?_)
    obtain ⟨st_11, est_11, hf⟩ := nam_some hf
    rw [← est_11] at hp
    have hk_9 : qk st_11 a_7 = 21 := by rw [est_11]; exact hk_9
    exact J153 (l9, st_11) _ _ _ ⟨hf, hp, (lv_sub hl [0, 1] rfl)⟩
  refine W_blk (fun (u : Int32 × Int32 × CS) H locs ls => match u with | (l9, s0, gs) => fX7_breaks_134 h0 F l9 s0 gs = some (r, st') ∧ Cp (dC, dI) ka ad ct A s.heap gs H locs ∧ lv_has ls 11 [(0, .ref (ad h0)), (9, .int l9)]) (fun (u : Int32 × Int32 × CS) ls => match u with | (l9, s0, gs) => F0 m 134 ls [.int s0]) ?_ (fun J134 => ?_)
  · intro u H locs ls hu
    obtain ⟨l9, s0, gs⟩ := u
    obtain ⟨hf, hp, hl⟩ := hu
    show W p l e _ s m _ below meth c _ _ _ _ _ (F0 m 134 ls [.int s0])
    unfold fX7_breaks_134 at hf
    refine lv_istore (i := 10) (lv' := [(10, .int s0), (0, .ref (ad h0)), (9, .int l9)]) hx hb dX7_breaks_134 hl (by decide) rfl (fun ls hl => ?_)
    refine lv_aload_n hx hb dX7_breaks_136 rfl (lv_at hl 1 rfl) ?_
    obtain ⟨hk_12, hf⟩ := gd_some hf
    refine q_gp (ci := 9) (C := RX7) (T := TX7) (N := 2) (k := 1) hx hb hts iRX7 hown hK hp hk_12 (by decide) rfl rfl (by decide) rfl (Or.inl (hts (.fieldLink RX7 15 "RecordBench$Walks" "seen" "[I") (by decide +kernel))) (fun _ h9 => h9) dX7_breaks_137 ?_
    refine lv_iload hx hb dX7_breaks_140 (lv_at hl 2 rfl) ?_
    refine lv_iload hx hb dX7_breaks_142 (lv_at hl 0 rfl) ?_
    refine lv_if_eq (tgt := 151) hx hb dX7_breaks_144 (by decide) (fun c_13 => ?_) (fun c_13 => ?_)
    · have hf := pif_t c_13 hf
      refine lv_iconst (v := 1) hx hb dX7_breaks_151 (by decide) ?_
      exact J152 (l9, 1, l9, (qP gs h0 1), gs) _ _ _ ⟨hf, hp, (lv_sub hl [1, 2] rfl)⟩
    · have hf := pif_f c_13 hf
      refine lv_iconst (v := 2) hx hb dX7_breaks_147 (by decide) ?_
      refine lv_goto (tgt := 152) hx hb dX7_breaks_148 (by decide) ?_
      exact J152 (l9, 2, l9, (qP gs h0 1), gs) _ _ _ ⟨hf, hp, (lv_sub hl [1, 2] rfl)⟩
  refine W_blk (fun (u : Int32 × Int32 × (Option Nat) × (Option Nat) × (Option Nat) × Int32 × Int32 × CS) H locs ls => match u with | (l4, l5, l6, l7, l8, s0, s1, gs) => fX7_breaks_82 h0 F l4 l5 l6 l7 l8 s0 s1 gs = some (r, st') ∧ Cp (dC, dI) ka ad ct A s.heap gs H locs ∧ lv_has ls 11 [(0, .ref (ad h0)), (4, .int l4), (5, .int l5), (6, va_rf (Option.map ad l6)), (7, va_rf (Option.map ad l7)), (8, va_rf (Option.map ad l8))]) (fun (u : Int32 × Int32 × (Option Nat) × (Option Nat) × (Option Nat) × Int32 × Int32 × CS) ls => match u with | (l4, l5, l6, l7, l8, s0, s1, gs) => F0 m 82 ls [.int s0, .int s1]) ?_ (fun J82 => ?_)
  · intro u H locs ls hu
    obtain ⟨l4, l5, l6, l7, l8, s0, s1, gs⟩ := u
    obtain ⟨hf, hp, hl⟩ := hu
    show W p l e _ s m _ below meth c _ _ _ _ _ (F0 m 82 ls [.int s0, .int s1])
    unfold fX7_breaks_82 at hf
    refine lv_iadd hx hb dX7_breaks_82 ?_
    obtain ⟨v_14, ev_14, hf⟩ := nam_some hf
    refine W_toi (y := v_14) ev_14.symm ?_
    refine lv_istore (i := 9) (lv' := [(9, .int v_14), (0, .ref (ad h0)), (4, .int l4), (5, .int l5), (6, va_rf (Option.map ad l6)), (7, va_rf (Option.map ad l7)), (8, va_rf (Option.map ad l8))]) hx hb dX7_breaks_83 hl (by decide) (by simp [rf_cat, vc_i, vc_l, vc_r, vc_n]) (fun ls hl => ?_)
    refine lv_iload hx hb dX7_breaks_85 (lv_at hl 0 rfl) ?_
    refine lv_if_lt (tgt := 100) hx hb dX7_breaks_87 (by decide) (fun c_15 => ?_) (fun c_15 => ?_)
    · have hf := pif_t c_15 hf
      refine lv_iconst (v := 0) hx hb dX7_breaks_100 (by decide) ?_
      obtain ⟨e1, e2⟩ := pr_some hf
      exact W.zret (v := 0) hx hb hr rfl (fun t ht hW => ⟨⟨0, (), rfl, e1, Cp.end e2 hp ht⟩, hp.2.1.F ht⟩) hp.2.1.2.2 dX7_breaks_101
    · have hf := pif_f c_15 hf
      refine lv_iload hx hb dX7_breaks_90 (lv_at hl 0 rfl) ?_
      refine lv_aload_n hx hb dX7_breaks_92 rfl (lv_at hl 1 rfl) ?_
      obtain ⟨hk_16, hf⟩ := gd_some hf
      refine q_gp (ci := 9) (C := RX7) (T := TX7) (N := 2) (k := 1) hx hb hts iRX7 hown hK hp hk_16 (by decide) rfl rfl (by decide) rfl (Or.inl (hts (.fieldLink RX7 15 "RecordBench$Walks" "seen" "[I") (by decide +kernel))) (fun _ h9 => h9) dX7_breaks_93 ?_
      obtain ⟨a_17, ha_18, hf⟩ := ono_some hf
      refine o_at ha_18 ?_
      obtain ⟨hk_19, hf⟩ := gd_some hf
      refine q_len (t0 := 0) hx hb hK hp (hp.2.2.1.ge hk_19 (by decide) (by decide) (by decide)) hk_19 (by decide) rfl dX7_breaks_96 ?_
      refine lv_icmp_lt (tgt := 102) hx hb dX7_breaks_97 (by decide) (fun c_20 => ?_) (fun c_20 => ?_)
      · have hf := pif_t c_20 hf
        refine lv_aload_n hx hb dX7_breaks_102 rfl (lv_at hl 1 rfl) ?_
        refine q_gp (ci := 9) (C := RX7) (T := TX7) (N := 2) (k := 1) hx hb hts iRX7 hown hK hp hk_16 (by decide) rfl rfl (by decide) rfl (Or.inl (hts (.fieldLink RX7 15 "RecordBench$Walks" "seen" "[I") (by decide +kernel))) (fun _ h9 => h9) dX7_breaks_103 ?_
        refine lv_iload hx hb dX7_breaks_106 (lv_at hl 0 rfl) ?_
        refine o_at1 ha_18 ?_
        obtain ⟨g_21, hf⟩ := gd_some hf
        refine q_ai hx hb hK hp hk_19 g_21 dX7_breaks_108 ?_
        refine lv_if_ne (tgt := 153) hx hb dX7_breaks_109 (by decide) (fun c_22 => ?_) (fun c_22 => ?_)
        · have hf := pif_f c_22 hf
          exact J153 (v_14, gs) _ _ _ ⟨hf, hp, (lv_sub hl [1, 0] rfl)⟩
        · have hf := pif_t c_22 hf
          refine lv_aload_n hx hb dX7_breaks_112 rfl (lv_at hl 1 rfl) ?_
          refine o_aload hx hb dX7_breaks_113 (lv_at hl 4 rfl) ?_
          refine o_aload hx hb dX7_breaks_115 (lv_at hl 5 rfl) ?_
          refine o_aload hx hb dX7_breaks_117 (lv_at hl 6 rfl) ?_
          refine lv_iload hx hb dX7_breaks_119 (lv_at hl 2 rfl) ?_
          refine lv_iload hx hb dX7_breaks_121 (lv_at hl 3 rfl) ?_
          obtain ⟨r_25, st_23, hc_24, hf⟩ := bnd_some hf
          refine q_ci hp hA (va_runV (As := [va_rf (Option.map ad l6), va_rf (Option.map ad l7), va_rf (Option.map ad l8), .int l4, .int l5]) (rest := []) ⟨hx, hb, hml, hown, hts⟩ (c_X7_firstNumber l dC dI ka ad ct F hFm fr lo hF h0 l6 l7 l8 l4 l5 _ _ _ hc_24 _) (cwV 5 hts gq_X7_breaks_X7_firstNumber_23 rfl rfl rfl (by decide +kernel) ⟨by show fr + 4 + 1 ≤ fr + 5; omega, by show 8 + (7 + 11) + (lo + 114) ≤ lo + 144; omega⟩) ⟨PrC.blind _, q_rv9 hK hp hC hk_16, q_pre hp hK hN hZ hC hR hL hA⟩ rfl rfl hl.1 rfl (lv_room (Nat.le_of_ble_eq_true rfl)) dX7_breaks_123 ⟨Nat.le_of_ble_eq_true rfl, Nat.le_of_ble_eq_true rfl⟩) (fun H locs hp => ?_)
          have hk_16 : qk st_23 h0 = 10 := by rw [(mo_X7_firstNumber F hFm h0 l6 l7 l8 l4 l5 _ _ _ hc_24).2.2.1]; exact hk_16
          have hk_19 : qk st_23 a_17 = 21 := by rw [(mo_X7_firstNumber F hFm h0 l6 l7 l8 l4 l5 _ _ _ hc_24).2.2.1]; exact hk_19
          refine lv_if_eq (tgt := 133) hx hb dX7_breaks_126 (by decide) (fun c_26 => ?_) (fun c_26 => ?_)
          · have hf := pif_t c_26 hf
            refine lv_iconst (v := 0) hx hb dX7_breaks_133 (by decide) ?_
            exact J134 (v_14, 0, st_23) _ _ _ ⟨hf, hp, (lv_sub hl [1, 0] rfl)⟩
          · have hf := pif_f c_26 hf
            refine lv_iconst (v := 1) hx hb dX7_breaks_129 (by decide) ?_
            refine lv_goto (tgt := 134) hx hb dX7_breaks_130 (by decide) ?_
            exact J134 (v_14, 1, st_23) _ _ _ ⟨hf, hp, (lv_sub hl [1, 0] rfl)⟩
      · have hf := pif_f c_20 hf
        refine lv_iconst (v := 0) hx hb dX7_breaks_100 (by decide) ?_
        obtain ⟨e1, e2⟩ := pr_some hf
        exact W.zret (v := 0) hx hb hr rfl (fun t ht hW => ⟨⟨0, (), rfl, e1, Cp.end e2 hp ht⟩, hp.2.1.F ht⟩) hp.2.1.2.2 dX7_breaks_101
  unfold fX7_breaks at hf
  refine lv_aload_n hx hb dX7_breaks_0 rfl (lv_at hl 0 rfl) ?_
  obtain ⟨hk_27, hf⟩ := gd_some hf
  refine q_gp (ci := 9) (C := RX7) (T := TX7) (N := 2) (k := 0) hx hb hts iRX7 hown hK hp hk_27 (by decide) rfl rfl (by decide) rfl (Or.inl (hts (.fieldLink RX7 9 "RecordBench$Walks" "makes" "[LRecordBench$Make;") (by decide +kernel))) (fun _ h9 => h9) dX7_breaks_1 ?_
  refine lv_iload_n hx hb dX7_breaks_4 rfl (lv_at hl 1 rfl) ?_
  obtain ⟨r_30, st_28, hc_29, hf⟩ := bnd_some hf
  refine q_cq hp hA (va_runSN (As := [va_rf (Option.map ad (qP st h0 0)), .int p0]) (rest := []) ⟨hx, hb, hml, hown, hts⟩ (c_X8_makeOf l dC dI ka ad ct (qP st h0 0) p0 _ _ _ hc_29 _) ⟨va_cnB 2 hts gq_X7_breaks_X8_makeOf_19 rfl rfl rfl (hN.1 (.methodLinkNest RX7 19 yX8_makeOf "RecordBench") (by decide +kernel)) (hts (.initialized RX8) (by decide +kernel)) (by decide +kernel) ⟨by show 0 + 1 ≤ fr + 5; omega, by show 8 + (2 + 11) + 0 ≤ lo + 144; omega⟩, (hts (.static yX8_makeOf) (by decide +kernel)), trivial⟩ ⟨PrC.blind _, q_pre hp hK hN hZ hC hR hL hA⟩ rfl rfl hl.1 rfl (lv_room (Nat.le_of_ble_eq_true rfl)) dX7_breaks_5 ⟨Nat.le_of_ble_eq_true rfl, Nat.le_of_ble_eq_true rfl⟩) (fun H locs hp => ?_)
  have hk_27 : qk st_28 h0 = 10 := by rw [(mo_X8_makeOf (qP st h0 0) p0 _ _ _ hc_29).2.2.1]; exact hk_27
  refine o_astore (i := 6) (lv' := [(6, va_rf (Option.map ad r_30)), (0, .ref (ad h0)), (1, .int p0), (2, .int p1), (3, .int p2), (4, .int p3), (5, .int p4)]) hx hb dX7_breaks_8 hl (by decide) rfl (fun ls hl => ?_)
  refine lv_aload_n hx hb dX7_breaks_10 rfl (lv_at hl 1 rfl) ?_
  refine q_gp (ci := 9) (C := RX7) (T := TX7) (N := 2) (k := 0) hx hb hts iRX7 hown hK hp hk_27 (by decide) rfl rfl (by decide) rfl (Or.inl (hts (.fieldLink RX7 9 "RecordBench$Walks" "makes" "[LRecordBench$Make;") (by decide +kernel))) (fun _ h9 => h9) dX7_breaks_11 ?_
  refine lv_iload_n hx hb dX7_breaks_14 rfl (lv_at hl 3 rfl) ?_
  obtain ⟨r_33, st_31, hc_32, hf⟩ := bnd_some hf
  refine q_cq hp hA (va_runSN (As := [va_rf (Option.map ad (qP st_28 h0 0)), .int p1]) (rest := []) ⟨hx, hb, hml, hown, hts⟩ (c_X8_makeOf l dC dI ka ad ct (qP st_28 h0 0) p1 _ _ _ hc_32 _) ⟨va_cnB 2 hts gq_X7_breaks_X8_makeOf_19 rfl rfl rfl (hN.1 (.methodLinkNest RX7 19 yX8_makeOf "RecordBench") (by decide +kernel)) (hts (.initialized RX8) (by decide +kernel)) (by decide +kernel) ⟨by show 0 + 1 ≤ fr + 5; omega, by show 8 + (2 + 11) + 0 ≤ lo + 144; omega⟩, (hts (.static yX8_makeOf) (by decide +kernel)), trivial⟩ ⟨PrC.blind _, q_pre hp hK hN hZ hC hR hL hA⟩ rfl rfl hl.1 rfl (lv_room (Nat.le_of_ble_eq_true rfl)) dX7_breaks_15 ⟨Nat.le_of_ble_eq_true rfl, Nat.le_of_ble_eq_true rfl⟩) (fun H locs hp => ?_)
  have hk_27 : qk st_31 h0 = 10 := by rw [(mo_X8_makeOf (qP st_28 h0 0) p1 _ _ _ hc_32).2.2.1]; exact hk_27
  refine o_astore (i := 7) (lv' := [(7, va_rf (Option.map ad r_33)), (6, va_rf (Option.map ad r_30)), (0, .ref (ad h0)), (1, .int p0), (2, .int p1), (3, .int p2), (4, .int p3), (5, .int p4)]) hx hb dX7_breaks_18 hl (by decide) (by simp [rf_cat, vc_i, vc_l, vc_r, vc_n]) (fun ls hl => ?_)
  refine lv_aload_n hx hb dX7_breaks_20 rfl (lv_at hl 2 rfl) ?_
  refine q_gp (ci := 9) (C := RX7) (T := TX7) (N := 2) (k := 0) hx hb hts iRX7 hown hK hp hk_27 (by decide) rfl rfl (by decide) rfl (Or.inl (hts (.fieldLink RX7 9 "RecordBench$Walks" "makes" "[LRecordBench$Make;") (by decide +kernel))) (fun _ h9 => h9) dX7_breaks_21 ?_
  refine lv_iload_n hx hb dX7_breaks_24 rfl (lv_at hl 5 rfl) ?_
  obtain ⟨r_36, st_34, hc_35, hf⟩ := bnd_some hf
  refine q_cq hp hA (va_runSN (As := [va_rf (Option.map ad (qP st_31 h0 0)), .int p2]) (rest := []) ⟨hx, hb, hml, hown, hts⟩ (c_X8_makeOf l dC dI ka ad ct (qP st_31 h0 0) p2 _ _ _ hc_35 _) ⟨va_cnB 2 hts gq_X7_breaks_X8_makeOf_19 rfl rfl rfl (hN.1 (.methodLinkNest RX7 19 yX8_makeOf "RecordBench") (by decide +kernel)) (hts (.initialized RX8) (by decide +kernel)) (by decide +kernel) ⟨by show 0 + 1 ≤ fr + 5; omega, by show 8 + (2 + 11) + 0 ≤ lo + 144; omega⟩, (hts (.static yX8_makeOf) (by decide +kernel)), trivial⟩ ⟨PrC.blind _, q_pre hp hK hN hZ hC hR hL hA⟩ rfl rfl hl.1 rfl (lv_room (Nat.le_of_ble_eq_true rfl)) dX7_breaks_25 ⟨Nat.le_of_ble_eq_true rfl, Nat.le_of_ble_eq_true rfl⟩) (fun H locs hp => ?_)
  have hk_27 : qk st_34 h0 = 10 := by rw [(mo_X8_makeOf (qP st_31 h0 0) p2 _ _ _ hc_35).2.2.1]; exact hk_27
  refine o_astore (i := 8) (lv' := [(8, va_rf (Option.map ad r_36)), (7, va_rf (Option.map ad r_33)), (6, va_rf (Option.map ad r_30)), (0, .ref (ad h0)), (1, .int p0), (2, .int p1), (3, .int p2), (4, .int p3), (5, .int p4)]) hx hb dX7_breaks_28 hl (by decide) (by simp [rf_cat, vc_i, vc_l, vc_r, vc_n]) (fun ls hl => ?_)
  refine o_aload hx hb dX7_breaks_30 (lv_at hl 2 rfl) ?_
  refine o_ifnull (tgt := 57) hx hb dX7_breaks_32 (by decide) (fun c_37 => ?_) (fun c_37 => ?_)
  · have hf := pif_t c_37 hf
    refine lv_iconst (v := 0) hx hb dX7_breaks_57 (by decide) ?_
    obtain ⟨e1, e2⟩ := pr_some hf
    exact W.zret (v := 0) hx hb hr rfl (fun t ht hW => ⟨⟨0, (), rfl, e1, Cp.end e2 hp ht⟩, hp.2.1.F ht⟩) hp.2.1.2.2 dX7_breaks_58
  · have hf := pif_f c_37 hf
    refine o_aload hx hb dX7_breaks_35 (lv_at hl 1 rfl) ?_
    refine o_ifnull (tgt := 57) hx hb dX7_breaks_37 (by decide) (fun c_38 => ?_) (fun c_38 => ?_)
    · have hf := pif_t c_38 hf
      refine lv_iconst (v := 0) hx hb dX7_breaks_57 (by decide) ?_
      obtain ⟨e1, e2⟩ := pr_some hf
      exact W.zret (v := 0) hx hb hr rfl (fun t ht hW => ⟨⟨0, (), rfl, e1, Cp.end e2 hp ht⟩, hp.2.1.F ht⟩) hp.2.1.2.2 dX7_breaks_58
    · have hf := pif_f c_38 hf
      refine o_aload hx hb dX7_breaks_40 (lv_at hl 0 rfl) ?_
      refine o_ifnull (tgt := 57) hx hb dX7_breaks_42 (by decide) (fun c_39 => ?_) (fun c_39 => ?_)
      · have hf := pif_t c_39 hf
        refine lv_iconst (v := 0) hx hb dX7_breaks_57 (by decide) ?_
        obtain ⟨e1, e2⟩ := pr_some hf
        exact W.zret (v := 0) hx hb hr rfl (fun t ht hW => ⟨⟨0, (), rfl, e1, Cp.end e2 hp ht⟩, hp.2.1.F ht⟩) hp.2.1.2.2 dX7_breaks_58
      · have hf := pif_f c_39 hf
        refine lv_iload hx hb dX7_breaks_45 (lv_at hl 8 rfl) ?_
        refine lv_if_lt (tgt := 57) hx hb dX7_breaks_47 (by decide) (fun c_40 => ?_) (fun c_40 => ?_)
        · have hf := pif_t c_40 hf
          refine lv_iconst (v := 0) hx hb dX7_breaks_57 (by decide) ?_
          obtain ⟨e1, e2⟩ := pr_some hf
          exact W.zret (v := 0) hx hb hr rfl (fun t ht hW => ⟨⟨0, (), rfl, e1, Cp.end e2 hp ht⟩, hp.2.1.F ht⟩) hp.2.1.2.2 dX7_breaks_58
        · have hf := pif_f c_40 hf
          refine lv_iload hx hb dX7_breaks_50 (lv_at hl 8 rfl) ?_
          refine lv_bipush (v := 8) hx hb dX7_breaks_52 (by decide) ?_
          refine lv_icmp_le (tgt := 59) hx hb dX7_breaks_54 (by decide) (fun c_41 => ?_) (fun c_41 => ?_)
          · have hf := pif_t c_41 hf
            refine lv_iload_n hx hb dX7_breaks_59 rfl (lv_at hl 4 rfl) ?_
            refine lv_bipush (v := 8) hx hb dX7_breaks_60 (by decide) ?_
            refine lv_imul hx hb dX7_breaks_62 ?_
            refine lv_iload_n hx hb dX7_breaks_63 rfl (lv_at hl 5 rfl) ?_
            refine lv_iadd hx hb dX7_breaks_64 ?_
            refine lv_bipush (v := 8) hx hb dX7_breaks_65 (by decide) ?_
            refine lv_imul hx hb dX7_breaks_67 ?_
            refine lv_iload_n hx hb dX7_breaks_68 rfl (lv_at hl 6 rfl) ?_
            refine lv_iadd hx hb dX7_breaks_69 ?_
            refine lv_iconst (v := 2) hx hb dX7_breaks_70 (by decide) ?_
            refine lv_imul hx hb dX7_breaks_71 ?_
            refine lv_iload hx hb dX7_breaks_72 (lv_at hl 7 rfl) ?_
            refine lv_if_eq (tgt := 81) hx hb dX7_breaks_74 (by decide) (fun c_42 => ?_) (fun c_42 => ?_)
            · have hf := pif_t c_42 hf
              refine lv_iconst (v := 0) hx hb dX7_breaks_81 (by decide) ?_
              exact J82 (p3, p4, r_30, r_33, r_36, 0, (((((p0 * 8) + p1) * 8) + p2) * 2), st_34) _ _ _ ⟨hf, hp, (lv_sub hl [3, 7, 8, 2, 1, 0] rfl)⟩
            · have hf := pif_f c_42 hf
              refine lv_iconst (v := 1) hx hb dX7_breaks_77 (by decide) ?_
              refine lv_goto (tgt := 82) hx hb dX7_breaks_78 (by decide) ?_
              exact J82 (p3, p4, r_30, r_33, r_36, 1, (((((p0 * 8) + p1) * 8) + p2) * 2), st_34) _ _ _ ⟨hf, hp, (lv_sub hl [3, 7, 8, 2, 1, 0] rfl)⟩
          · have hf := pif_f c_41 hf
            refine lv_iconst (v := 0) hx hb dX7_breaks_57 (by decide) ?_
            obtain ⟨e1, e2⟩ := pr_some hf
            exact W.zret (v := 0) hx hb hr rfl (fun t ht hW => ⟨⟨0, (), rfl, e1, Cp.end e2 hp ht⟩, hp.2.1.F ht⟩) hp.2.1.2.2 dX7_breaks_58
noncomputable def fX7_breaksN : Nat → Nat → Int32 → Int32 → Int32 → Int32 → Int32 → CS → Option (Int32 × CS)
  | 0 => fun _ _ _ _ _ _ _ => none
  | d + 1 => fun h0 p0 p1 p2 p3 p4 st => fX7_breaks (fX7_breaksN d) h0 p0 p1 p2 p3 p4 st
theorem fX7_breaksN_z (h0 : Nat) (p0 : Int32) (p1 : Int32) (p2 : Int32) (p3 : Int32) (p4 : Int32) (st : CS) : fX7_breaksN 0 h0 p0 p1 p2 p3 p4 st = none := rfl
theorem fX7_breaksN_s (d : Nat) (h0 : Nat) (p0 : Int32) (p1 : Int32) (p2 : Int32) (p3 : Int32) (p4 : Int32) (st : CS) : fX7_breaksN (d + 1) h0 p0 p1 p2 p3 p4 st = fX7_breaks (fX7_breaksN d) h0 p0 p1 p2 p3 p4 st := rfl
theorem mo_X7_breaksN : ∀ (d : Nat) (h0 : Nat) (p0 : Int32) (p1 : Int32) (p2 : Int32) (p3 : Int32) (p4 : Int32) (st : CS) (r : Int32) (st' : CS), fX7_breaksN d h0 p0 p1 p2 p3 p4 st = some (r, st') → Ke st st' := by
  intro d
  induction d with
  | zero =>
    intro h0 p0 p1 p2 p3 p4 st r st' hf
    rw [fX7_breaksN_z] at hf
    cases hf
  | succ d ih =>
    intro h0 p0 p1 p2 p3 p4 st r st' hf
    rw [fX7_breaksN_s] at hf
    exact mo_X7_breaks (fX7_breaksN d) ih h0 p0 p1 p2 p3 p4 st r st' hf
theorem c_X7_breaksN (l : Launch) (dC : Nat → ClassId) (dI : Nat → Nat → Nat) (ka ad : Nat → Nat) (ct : Nat → ClassId) : ∀ (d : Nat) (h0 : Nat) (p0 : Int32) (p1 : Int32) (p2 : Int32) (p3 : Int32) (p4 : Int32) (st st' : CS) (r : Int32) (hf : fX7_breaksN d h0 p0 p1 p2 p3 p4 st = some (r, st')) (sz : Nat), Met l yX7_breaks wq_X7_breaks ({ frames := 5 * d, cells := 0, slots := 0, locals := 144 * d }) (va_Pc [.ref (ad h0), .int p0, .int p1, .int p2, .int p3, .int p4] (PrC (dC, dI) ct ka ad st sz)) (va_Qi (fun r' (_ : Unit) => r' = r) (fun _ => CB (dC, dI) ct ka ad st' (aC ad st sz)) (aC ad st sz)) 0 0 (aC ad st sz) := by
  intro d
  induction d with
  | zero =>
    intro h0 p0 p1 p2 p3 p4 st st' r hf sz
    rw [fX7_breaksN_z] at hf
    cases hf
  | succ d ih =>
    intro h0 p0 p1 p2 p3 p4 st st' r hf sz
    rw [fX7_breaksN_s] at hf
    exact c_X7_breaks l dC dI ka ad ct (fX7_breaksN d) (mo_X7_breaksN d) (5 * d) (144 * d) ih h0 p0 p1 p2 p3 p4 st st' r hf sz
