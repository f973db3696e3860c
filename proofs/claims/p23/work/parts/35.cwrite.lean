theorem dX4_copyAll_0 : decode cX4_copyAll 0 = .ok (.aload 4, 2) := by decide +kernel
theorem dX4_copyAll_10 : decode cX4_copyAll 10 = .ok (.iload 6, 2) := by decide +kernel
theorem dX4_copyAll_12 : decode cX4_copyAll 12 = .ok (.aload_n 0, 1) := by decide +kernel
theorem dX4_copyAll_13 : decode cX4_copyAll 13 = .ok (.getfield 17, 3) := by decide +kernel
theorem dX4_copyAll_16 : decode cX4_copyAll 16 = .ok (.arraylength, 1) := by decide +kernel
theorem dX4_copyAll_17 : decode cX4_copyAll 17 = .ok (.if_icmp .lt 4, 3) := by decide +kernel
theorem dX4_copyAll_2 : decode cX4_copyAll 2 = .ok (.ifnull 18, 3) := by decide +kernel
theorem dX4_copyAll_20 : decode cX4_copyAll 20 = .ok (.return_, 1) := by decide +kernel
theorem dX4_copyAll_21 : decode cX4_copyAll 21 = .ok (.aload_n 0, 1) := by decide +kernel
theorem dX4_copyAll_22 : decode cX4_copyAll 22 = .ok (.getfield 17, 3) := by decide +kernel
theorem dX4_copyAll_25 : decode cX4_copyAll 25 = .ok (.iload 6, 2) := by decide +kernel
theorem dX4_copyAll_27 : decode cX4_copyAll 27 = .ok (.aaload, 1) := by decide +kernel
theorem dX4_copyAll_28 : decode cX4_copyAll 28 = .ok (.astore 7, 2) := by decide +kernel
theorem dX4_copyAll_30 : decode cX4_copyAll 30 = .ok (.iload_n 2, 1) := by decide +kernel
theorem dX4_copyAll_31 : decode cX4_copyAll 31 = .ok (.istore 8, 2) := by decide +kernel
theorem dX4_copyAll_33 : decode cX4_copyAll 33 = .ok (.iconst 0, 1) := by decide +kernel
theorem dX4_copyAll_34 : decode cX4_copyAll 34 = .ok (.istore 9, 2) := by decide +kernel
theorem dX4_copyAll_36 : decode cX4_copyAll 36 = .ok (.iload 9, 2) := by decide +kernel
theorem dX4_copyAll_38 : decode cX4_copyAll 38 = .ok (.bipush 120, 2) := by decide +kernel
theorem dX4_copyAll_40 : decode cX4_copyAll 40 = .ok (.if_icmp .ge 52, 3) := by decide +kernel
theorem dX4_copyAll_43 : decode cX4_copyAll 43 = .ok (.iload 8, 2) := by decide +kernel
theorem dX4_copyAll_45 : decode cX4_copyAll 45 = .ok (.iload_n 3, 1) := by decide +kernel
theorem dX4_copyAll_46 : decode cX4_copyAll 46 = .ok (.if_icmp .ge 46, 3) := by decide +kernel
theorem dX4_copyAll_49 : decode cX4_copyAll 49 = .ok (.aload 7, 2) := by decide +kernel
theorem dX4_copyAll_5 : decode cX4_copyAll 5 = .ok (.iload 6, 2) := by decide +kernel
theorem dX4_copyAll_51 : decode cX4_copyAll 51 = .ok (.aload_n 1, 1) := by decide +kernel
theorem dX4_copyAll_52 : decode cX4_copyAll 52 = .ok (.iload 8, 2) := by decide +kernel
theorem dX4_copyAll_54 : decode cX4_copyAll 54 = .ok (.iload_n 3, 1) := by decide +kernel
theorem dX4_copyAll_55 : decode cX4_copyAll 55 = .ok (.invokevirtual 43, 3) := by decide +kernel
theorem dX4_copyAll_58 : decode cX4_copyAll 58 = .ok (.aload_n 0, 1) := by decide +kernel
theorem dX4_copyAll_59 : decode cX4_copyAll 59 = .ok (.aload_n 1, 1) := by decide +kernel
theorem dX4_copyAll_60 : decode cX4_copyAll 60 = .ok (.iload 8, 2) := by decide +kernel
theorem dX4_copyAll_62 : decode cX4_copyAll 62 = .ok (.aload 4, 2) := by decide +kernel
theorem dX4_copyAll_64 : decode cX4_copyAll 64 = .ok (.aload 7, 2) := by decide +kernel
theorem dX4_copyAll_66 : decode cX4_copyAll 66 = .ok (.getfield 47, 3) := by decide +kernel
theorem dX4_copyAll_69 : decode cX4_copyAll 69 = .ok (.invokevirtual 54, 3) := by decide +kernel
theorem dX4_copyAll_7 : decode cX4_copyAll 7 = .ok (.ifCond .lt 13, 3) := by decide +kernel
theorem dX4_copyAll_72 : decode cX4_copyAll 72 = .ok (.aload 5, 2) := by decide +kernel
theorem dX4_copyAll_74 : decode cX4_copyAll 74 = .ok (.iload 6, 2) := by decide +kernel
theorem dX4_copyAll_76 : decode cX4_copyAll 76 = .ok (.invokevirtual 66, 3) := by decide +kernel
theorem dX4_copyAll_79 : decode cX4_copyAll 79 = .ok (.aload 7, 2) := by decide +kernel
theorem dX4_copyAll_81 : decode cX4_copyAll 81 = .ok (.getfield 70, 3) := by decide +kernel
theorem dX4_copyAll_84 : decode cX4_copyAll 84 = .ok (.istore 8, 2) := by decide +kernel
theorem dX4_copyAll_86 : decode cX4_copyAll 86 = .ok (.iinc 9 1, 3) := by decide +kernel
theorem dX4_copyAll_89 : decode cX4_copyAll 89 = .ok (.goto (-53), 3) := by decide +kernel
theorem dX4_copyAll_92 : decode cX4_copyAll 92 = .ok (.return_, 1) := by decide +kernel
theorem dX4_copyPiece_0 : decode cX4_copyPiece 0 = .ok (.iload 5, 2) := by decide +kernel
theorem dX4_copyPiece_102 : decode cX4_copyPiece 102 = .ok (.goto 65, 3) := by decide +kernel
theorem dX4_copyPiece_105 : decode cX4_copyPiece 105 = .ok (.aload 4, 2) := by decide +kernel
theorem dX4_copyPiece_107 : decode cX4_copyPiece 107 = .ok (.invokevirtual 39, 3) := by decide +kernel
theorem dX4_copyPiece_11 : decode cX4_copyPiece 11 = .ok (.arraylength, 1) := by decide +kernel
theorem dX4_copyPiece_110 : decode cX4_copyPiece 110 = .ok (.istore 7, 2) := by decide +kernel
theorem dX4_copyPiece_112 : decode cX4_copyPiece 112 = .ok (.aload 4, 2) := by decide +kernel
theorem dX4_copyPiece_114 : decode cX4_copyPiece 114 = .ok (.iconst 0, 1) := by decide +kernel
theorem dX4_copyPiece_115 : decode cX4_copyPiece 115 = .ok (.invokevirtual 102, 3) := by decide +kernel
theorem dX4_copyPiece_118 : decode cX4_copyPiece 118 = .ok (.aload_n 0, 1) := by decide +kernel
theorem dX4_copyPiece_119 : decode cX4_copyPiece 119 = .ok (.aload_n 1, 1) := by decide +kernel
theorem dX4_copyPiece_12 : decode cX4_copyPiece 12 = .ok (.if_icmp .lt 4, 3) := by decide +kernel
theorem dX4_copyPiece_120 : decode cX4_copyPiece 120 = .ok (.aload 6, 2) := by decide +kernel
theorem dX4_copyPiece_122 : decode cX4_copyPiece 122 = .ok (.getfield 99, 3) := by decide +kernel
theorem dX4_copyPiece_125 : decode cX4_copyPiece 125 = .ok (.aload 6, 2) := by decide +kernel
theorem dX4_copyPiece_127 : decode cX4_copyPiece 127 = .ok (.getfield 70, 3) := by decide +kernel
theorem dX4_copyPiece_130 : decode cX4_copyPiece 130 = .ok (.aload_n 0, 1) := by decide +kernel
theorem dX4_copyPiece_131 : decode cX4_copyPiece 131 = .ok (.getfield 9, 3) := by decide +kernel
theorem dX4_copyPiece_134 : decode cX4_copyPiece 134 = .ok (.aload_n 3, 1) := by decide +kernel
theorem dX4_copyPiece_135 : decode cX4_copyPiece 135 = .ok (.getfield 105, 3) := by decide +kernel
theorem dX4_copyPiece_138 : decode cX4_copyPiece 138 = .ok (.invokestatic 108, 3) := by decide +kernel
theorem dX4_copyPiece_141 : decode cX4_copyPiece 141 = .ok (.aload 4, 2) := by decide +kernel
theorem dX4_copyPiece_143 : decode cX4_copyPiece 143 = .ok (.iload 5, 2) := by decide +kernel
theorem dX4_copyPiece_145 : decode cX4_copyPiece 145 = .ok (.iconst 1, 1) := by decide +kernel
theorem dX4_copyPiece_146 : decode cX4_copyPiece 146 = .ok (.iadd, 1) := by decide +kernel
theorem dX4_copyPiece_147 : decode cX4_copyPiece 147 = .ok (.invokevirtual 112, 3) := by decide +kernel
theorem dX4_copyPiece_15 : decode cX4_copyPiece 15 = .ok (.return_, 1) := by decide +kernel
theorem dX4_copyPiece_150 : decode cX4_copyPiece 150 = .ok (.aload 4, 2) := by decide +kernel
theorem dX4_copyPiece_152 : decode cX4_copyPiece 152 = .ok (.iload 7, 2) := by decide +kernel
theorem dX4_copyPiece_154 : decode cX4_copyPiece 154 = .ok (.aload 4, 2) := by decide +kernel
theorem dX4_copyPiece_156 : decode cX4_copyPiece 156 = .ok (.invokevirtual 39, 3) := by decide +kernel
theorem dX4_copyPiece_159 : decode cX4_copyPiece 159 = .ok (.iload 7, 2) := by decide +kernel
theorem dX4_copyPiece_16 : decode cX4_copyPiece 16 = .ok (.aload_n 0, 1) := by decide +kernel
theorem dX4_copyPiece_161 : decode cX4_copyPiece 161 = .ok (.isub, 1) := by decide +kernel
theorem dX4_copyPiece_162 : decode cX4_copyPiece 162 = .ok (.iconst 1, 1) := by decide +kernel
theorem dX4_copyPiece_163 : decode cX4_copyPiece 163 = .ok (.isub, 1) := by decide +kernel
theorem dX4_copyPiece_164 : decode cX4_copyPiece 164 = .ok (.invokevirtual 116, 3) := by decide +kernel
theorem dX4_copyPiece_167 : decode cX4_copyPiece 167 = .ok (.return_, 1) := by decide +kernel
theorem dX4_copyPiece_17 : decode cX4_copyPiece 17 = .ok (.getfield 17, 3) := by decide +kernel
theorem dX4_copyPiece_2 : decode cX4_copyPiece 2 = .ok (.ifCond .lt 13, 3) := by decide +kernel
theorem dX4_copyPiece_20 : decode cX4_copyPiece 20 = .ok (.iload 5, 2) := by decide +kernel
theorem dX4_copyPiece_22 : decode cX4_copyPiece 22 = .ok (.aaload, 1) := by decide +kernel
theorem dX4_copyPiece_23 : decode cX4_copyPiece 23 = .ok (.astore 6, 2) := by decide +kernel
theorem dX4_copyPiece_25 : decode cX4_copyPiece 25 = .ok (.aload_n 3, 1) := by decide +kernel
theorem dX4_copyPiece_26 : decode cX4_copyPiece 26 = .ok (.ifnonnull 16, 3) := by decide +kernel
theorem dX4_copyPiece_29 : decode cX4_copyPiece 29 = .ok (.aload 4, 2) := by decide +kernel
theorem dX4_copyPiece_31 : decode cX4_copyPiece 31 = .ok (.aload_n 1, 1) := by decide +kernel
theorem dX4_copyPiece_32 : decode cX4_copyPiece 32 = .ok (.iload_n 2, 1) := by decide +kernel
theorem dX4_copyPiece_33 : decode cX4_copyPiece 33 = .ok (.aload 6, 2) := by decide +kernel
theorem dX4_copyPiece_35 : decode cX4_copyPiece 35 = .ok (.getfield 70, 3) := by decide +kernel
theorem dX4_copyPiece_38 : decode cX4_copyPiece 38 = .ok (.invokevirtual 51, 3) := by decide +kernel
theorem dX4_copyPiece_41 : decode cX4_copyPiece 41 = .ok (.return_, 1) := by decide +kernel
theorem dX4_copyPiece_42 : decode cX4_copyPiece 42 = .ok (.aload 4, 2) := by decide +kernel
theorem dX4_copyPiece_44 : decode cX4_copyPiece 44 = .ok (.aload_n 3, 1) := by decide +kernel
theorem dX4_copyPiece_45 : decode cX4_copyPiece 45 = .ok (.invokevirtual 73, 3) := by decide +kernel
theorem dX4_copyPiece_48 : decode cX4_copyPiece 48 = .ok (.aload_n 3, 1) := by decide +kernel
theorem dX4_copyPiece_49 : decode cX4_copyPiece 49 = .ok (.invokevirtual 77, 3) := by decide +kernel
theorem dX4_copyPiece_5 : decode cX4_copyPiece 5 = .ok (.iload 5, 2) := by decide +kernel
theorem dX4_copyPiece_52 : decode cX4_copyPiece 52 = .ok (.ifCond .eq 16, 3) := by decide +kernel
theorem dX4_copyPiece_55 : decode cX4_copyPiece 55 = .ok (.aload 4, 2) := by decide +kernel
theorem dX4_copyPiece_57 : decode cX4_copyPiece 57 = .ok (.aload 6, 2) := by decide +kernel
theorem dX4_copyPiece_59 : decode cX4_copyPiece 59 = .ok (.invokevirtual 81, 3) := by decide +kernel
theorem dX4_copyPiece_62 : decode cX4_copyPiece 62 = .ok (.invokevirtual 85, 3) := by decide +kernel
theorem dX4_copyPiece_65 : decode cX4_copyPiece 65 = .ok (.goto 102, 3) := by decide +kernel
theorem dX4_copyPiece_68 : decode cX4_copyPiece 68 = .ok (.aload_n 3, 1) := by decide +kernel
theorem dX4_copyPiece_69 : decode cX4_copyPiece 69 = .ok (.getfield 89, 3) := by decide +kernel
theorem dX4_copyPiece_7 : decode cX4_copyPiece 7 = .ok (.aload_n 0, 1) := by decide +kernel
theorem dX4_copyPiece_72 : decode cX4_copyPiece 72 = .ok (.iconst 5, 1) := by decide +kernel
theorem dX4_copyPiece_73 : decode cX4_copyPiece 73 = .ok (.if_icmp .ne 32, 3) := by decide +kernel
theorem dX4_copyPiece_76 : decode cX4_copyPiece 76 = .ok (.aload 4, 2) := by decide +kernel
theorem dX4_copyPiece_78 : decode cX4_copyPiece 78 = .ok (.aload 6, 2) := by decide +kernel
theorem dX4_copyPiece_8 : decode cX4_copyPiece 8 = .ok (.getfield 17, 3) := by decide +kernel
theorem dX4_copyPiece_80 : decode cX4_copyPiece 80 = .ok (.getfield 92, 3) := by decide +kernel
theorem dX4_copyPiece_83 : decode cX4_copyPiece 83 = .ok (.invokevirtual 96, 3) := by decide +kernel
theorem dX4_copyPiece_86 : decode cX4_copyPiece 86 = .ok (.aload 4, 2) := by decide +kernel
theorem dX4_copyPiece_88 : decode cX4_copyPiece 88 = .ok (.aload_n 1, 1) := by decide +kernel
theorem dX4_copyPiece_89 : decode cX4_copyPiece 89 = .ok (.aload 6, 2) := by decide +kernel
theorem dX4_copyPiece_91 : decode cX4_copyPiece 91 = .ok (.getfield 99, 3) := by decide +kernel
theorem dX4_copyPiece_94 : decode cX4_copyPiece 94 = .ok (.aload 6, 2) := by decide +kernel
theorem dX4_copyPiece_96 : decode cX4_copyPiece 96 = .ok (.getfield 70, 3) := by decide +kernel
theorem dX4_copyPiece_99 : decode cX4_copyPiece 99 = .ok (.invokevirtual 51, 3) := by decide +kernel
theorem dX4_rewriteWith_0 : decode cX4_rewriteWith 0 = .ok (.aload 6, 2) := by decide +kernel
theorem dX4_rewriteWith_100 : decode cX4_rewriteWith 100 = .ok (.getfield 60, 3) := by decide +kernel
theorem dX4_rewriteWith_103 : decode cX4_rewriteWith 103 = .ok (.iload_n 3, 1) := by decide +kernel
theorem dX4_rewriteWith_104 : decode cX4_rewriteWith 104 = .ok (.if_icmp .eq 18, 3) := by decide +kernel
theorem dX4_rewriteWith_107 : decode cX4_rewriteWith 107 = .ok (.iload 4, 2) := by decide +kernel
theorem dX4_rewriteWith_109 : decode cX4_rewriteWith 109 = .ok (.ifCond .eq 17, 3) := by decide +kernel
theorem dX4_rewriteWith_11 : decode cX4_rewriteWith 11 = .ok (.iconst 0, 1) := by decide +kernel
theorem dX4_rewriteWith_112 : decode cX4_rewriteWith 112 = .ok (.aload 11, 2) := by decide +kernel
theorem dX4_rewriteWith_114 : decode cX4_rewriteWith 114 = .ok (.getfield 63, 3) := by decide +kernel
theorem dX4_rewriteWith_117 : decode cX4_rewriteWith 117 = .ok (.iload 4, 2) := by decide +kernel
theorem dX4_rewriteWith_119 : decode cX4_rewriteWith 119 = .ok (.if_icmp .ne 7, 3) := by decide +kernel
theorem dX4_rewriteWith_12 : decode cX4_rewriteWith 12 = .ok (.aaload, 1) := by decide +kernel
theorem dX4_rewriteWith_122 : decode cX4_rewriteWith 122 = .ok (.iconst 1, 1) := by decide +kernel
theorem dX4_rewriteWith_123 : decode cX4_rewriteWith 123 = .ok (.goto 4, 3) := by decide +kernel
theorem dX4_rewriteWith_126 : decode cX4_rewriteWith 126 = .ok (.iconst 0, 1) := by decide +kernel
theorem dX4_rewriteWith_127 : decode cX4_rewriteWith 127 = .ok (.istore 12, 2) := by decide +kernel
theorem dX4_rewriteWith_129 : decode cX4_rewriteWith 129 = .ok (.iload 12, 2) := by decide +kernel
theorem dX4_rewriteWith_13 : decode cX4_rewriteWith 13 = .ok (.astore 7, 2) := by decide +kernel
theorem dX4_rewriteWith_131 : decode cX4_rewriteWith 131 = .ok (.ifCond .ne 15, 3) := by decide +kernel
theorem dX4_rewriteWith_134 : decode cX4_rewriteWith 134 = .ok (.aload_n 0, 1) := by decide +kernel
theorem dX4_rewriteWith_135 : decode cX4_rewriteWith 135 = .ok (.aload_n 1, 1) := by decide +kernel
theorem dX4_rewriteWith_136 : decode cX4_rewriteWith 136 = .ok (.iload 9, 2) := by decide +kernel
theorem dX4_rewriteWith_138 : decode cX4_rewriteWith 138 = .ok (.aload 11, 2) := by decide +kernel
theorem dX4_rewriteWith_140 : decode cX4_rewriteWith 140 = .ok (.aload 6, 2) := by decide +kernel
theorem dX4_rewriteWith_142 : decode cX4_rewriteWith 142 = .ok (.iconst 0, 1) := by decide +kernel
theorem dX4_rewriteWith_143 : decode cX4_rewriteWith 143 = .ok (.invokevirtual 66, 3) := by decide +kernel
theorem dX4_rewriteWith_146 : decode cX4_rewriteWith 146 = .ok (.aload 7, 2) := by decide +kernel
theorem dX4_rewriteWith_148 : decode cX4_rewriteWith 148 = .ok (.getfield 70, 3) := by decide +kernel
theorem dX4_rewriteWith_15 : decode cX4_rewriteWith 15 = .ok (.iconst 0, 1) := by decide +kernel
theorem dX4_rewriteWith_151 : decode cX4_rewriteWith 151 = .ok (.istore 9, 2) := by decide +kernel
theorem dX4_rewriteWith_153 : decode cX4_rewriteWith 153 = .ok (.iinc 10 1, 3) := by decide +kernel
theorem dX4_rewriteWith_156 : decode cX4_rewriteWith 156 = .ok (.goto (-132), 3) := by decide +kernel
theorem dX4_rewriteWith_159 : decode cX4_rewriteWith 159 = .ok (.iload 8, 2) := by decide +kernel
theorem dX4_rewriteWith_16 : decode cX4_rewriteWith 16 = .ok (.istore 8, 2) := by decide +kernel
theorem dX4_rewriteWith_161 : decode cX4_rewriteWith 161 = .ok (.ifCond .ne 16, 3) := by decide +kernel
theorem dX4_rewriteWith_164 : decode cX4_rewriteWith 164 = .ok (.aload 6, 2) := by decide +kernel
theorem dX4_rewriteWith_166 : decode cX4_rewriteWith 166 = .ok (.aload 5, 2) := by decide +kernel
theorem dX4_rewriteWith_168 : decode cX4_rewriteWith 168 = .ok (.iconst 0, 1) := by decide +kernel
theorem dX4_rewriteWith_169 : decode cX4_rewriteWith 169 = .ok (.aload 5, 2) := by decide +kernel
theorem dX4_rewriteWith_171 : decode cX4_rewriteWith 171 = .ok (.invokevirtual 39, 3) := by decide +kernel
theorem dX4_rewriteWith_174 : decode cX4_rewriteWith 174 = .ok (.invokevirtual 51, 3) := by decide +kernel
theorem dX4_rewriteWith_177 : decode cX4_rewriteWith 177 = .ok (.return_, 1) := by decide +kernel
theorem dX4_rewriteWith_18 : decode cX4_rewriteWith 18 = .ok (.iconst 0, 1) := by decide +kernel
theorem dX4_rewriteWith_19 : decode cX4_rewriteWith 19 = .ok (.istore 9, 2) := by decide +kernel
theorem dX4_rewriteWith_2 : decode cX4_rewriteWith 2 = .ok (.iconst 0, 1) := by decide +kernel
theorem dX4_rewriteWith_21 : decode cX4_rewriteWith 21 = .ok (.iconst 0, 1) := by decide +kernel
theorem dX4_rewriteWith_22 : decode cX4_rewriteWith 22 = .ok (.istore 10, 2) := by decide +kernel
theorem dX4_rewriteWith_24 : decode cX4_rewriteWith 24 = .ok (.iload 10, 2) := by decide +kernel
theorem dX4_rewriteWith_26 : decode cX4_rewriteWith 26 = .ok (.bipush 120, 2) := by decide +kernel
theorem dX4_rewriteWith_28 : decode cX4_rewriteWith 28 = .ok (.if_icmp .ge 131, 3) := by decide +kernel
theorem dX4_rewriteWith_3 : decode cX4_rewriteWith 3 = .ok (.invokevirtual 35, 3) := by decide +kernel
theorem dX4_rewriteWith_31 : decode cX4_rewriteWith 31 = .ok (.iload 9, 2) := by decide +kernel
theorem dX4_rewriteWith_33 : decode cX4_rewriteWith 33 = .ok (.aload_n 1, 1) := by decide +kernel
theorem dX4_rewriteWith_34 : decode cX4_rewriteWith 34 = .ok (.invokevirtual 39, 3) := by decide +kernel
theorem dX4_rewriteWith_37 : decode cX4_rewriteWith 37 = .ok (.if_icmp .ge 122, 3) := by decide +kernel
theorem dX4_rewriteWith_40 : decode cX4_rewriteWith 40 = .ok (.aload 7, 2) := by decide +kernel
theorem dX4_rewriteWith_42 : decode cX4_rewriteWith 42 = .ok (.aload_n 1, 1) := by decide +kernel
theorem dX4_rewriteWith_43 : decode cX4_rewriteWith 43 = .ok (.iload 9, 2) := by decide +kernel
theorem dX4_rewriteWith_45 : decode cX4_rewriteWith 45 = .ok (.aload_n 1, 1) := by decide +kernel
theorem dX4_rewriteWith_46 : decode cX4_rewriteWith 46 = .ok (.invokevirtual 39, 3) := by decide +kernel
theorem dX4_rewriteWith_49 : decode cX4_rewriteWith 49 = .ok (.invokevirtual 43, 3) := by decide +kernel
theorem dX4_rewriteWith_52 : decode cX4_rewriteWith 52 = .ok (.iload 8, 2) := by decide +kernel
theorem dX4_rewriteWith_54 : decode cX4_rewriteWith 54 = .ok (.ifCond .ne 28, 3) := by decide +kernel
theorem dX4_rewriteWith_57 : decode cX4_rewriteWith 57 = .ok (.aload 7, 2) := by decide +kernel
theorem dX4_rewriteWith_59 : decode cX4_rewriteWith 59 = .ok (.getfield 47, 3) := by decide +kernel
theorem dX4_rewriteWith_6 : decode cX4_rewriteWith 6 = .ok (.pop, 1) := by decide +kernel
theorem dX4_rewriteWith_62 : decode cX4_rewriteWith 62 = .ok (.iload_n 3, 1) := by decide +kernel
theorem dX4_rewriteWith_63 : decode cX4_rewriteWith 63 = .ok (.if_icmp .lt 19, 3) := by decide +kernel
theorem dX4_rewriteWith_66 : decode cX4_rewriteWith 66 = .ok (.aload 6, 2) := by decide +kernel
theorem dX4_rewriteWith_68 : decode cX4_rewriteWith 68 = .ok (.aload 5, 2) := by decide +kernel
theorem dX4_rewriteWith_7 : decode cX4_rewriteWith 7 = .ok (.aload_n 0, 1) := by decide +kernel
theorem dX4_rewriteWith_70 : decode cX4_rewriteWith 70 = .ok (.iconst 0, 1) := by decide +kernel
theorem dX4_rewriteWith_71 : decode cX4_rewriteWith 71 = .ok (.aload 5, 2) := by decide +kernel
theorem dX4_rewriteWith_73 : decode cX4_rewriteWith 73 = .ok (.invokevirtual 39, 3) := by decide +kernel
theorem dX4_rewriteWith_76 : decode cX4_rewriteWith 76 = .ok (.invokevirtual 51, 3) := by decide +kernel
theorem dX4_rewriteWith_79 : decode cX4_rewriteWith 79 = .ok (.iconst 1, 1) := by decide +kernel
theorem dX4_rewriteWith_8 : decode cX4_rewriteWith 8 = .ok (.getfield 17, 3) := by decide +kernel
theorem dX4_rewriteWith_80 : decode cX4_rewriteWith 80 = .ok (.istore 8, 2) := by decide +kernel
theorem dX4_rewriteWith_82 : decode cX4_rewriteWith 82 = .ok (.aload_n 2, 1) := by decide +kernel
theorem dX4_rewriteWith_83 : decode cX4_rewriteWith 83 = .ok (.aload 7, 2) := by decide +kernel
theorem dX4_rewriteWith_85 : decode cX4_rewriteWith 85 = .ok (.getfield 47, 3) := by decide +kernel
theorem dX4_rewriteWith_88 : decode cX4_rewriteWith 88 = .ok (.invokevirtual 54, 3) := by decide +kernel
theorem dX4_rewriteWith_91 : decode cX4_rewriteWith 91 = .ok (.astore 11, 2) := by decide +kernel
theorem dX4_rewriteWith_93 : decode cX4_rewriteWith 93 = .ok (.aload 11, 2) := by decide +kernel
theorem dX4_rewriteWith_95 : decode cX4_rewriteWith 95 = .ok (.ifnull 31, 3) := by decide +kernel
theorem dX4_rewriteWith_98 : decode cX4_rewriteWith 98 = .ok (.aload 11, 2) := by decide +kernel
theorem dX4_rewrite_0 : decode cX4_rewrite 0 = .ok (.aload_n 0, 1) := by decide +kernel
theorem dX4_rewrite_1 : decode cX4_rewrite 1 = .ok (.aload_n 1, 1) := by decide +kernel
theorem dX4_rewrite_10 : decode cX4_rewrite 10 = .ok (.invokevirtual 31, 3) := by decide +kernel
theorem dX4_rewrite_13 : decode cX4_rewrite 13 = .ok (.return_, 1) := by decide +kernel
theorem dX4_rewrite_2 : decode cX4_rewrite 2 = .ok (.aload_n 2, 1) := by decide +kernel
theorem dX4_rewrite_3 : decode cX4_rewrite 3 = .ok (.iconst 0, 1) := by decide +kernel
theorem dX4_rewrite_4 : decode cX4_rewrite 4 = .ok (.iconst 0, 1) := by decide +kernel
theorem dX4_rewrite_5 : decode cX4_rewrite 5 = .ok (.aload_n 0, 1) := by decide +kernel
theorem dX4_rewrite_6 : decode cX4_rewrite 6 = .ok (.getfield 27, 3) := by decide +kernel
theorem dX4_rewrite_9 : decode cX4_rewrite 9 = .ok (.aload_n 3, 1) := by decide +kernel
def wq_X4_copyAll : List Cond := .code yX4_copyAll cX4_copyAll 10 none :: (([.fieldLink RX4 17 "RecordBench$RecordWriter" "pieces" "[LRecordBench$Piece;", .methodLink RX4 43 yX2_look, .instanceMethod yX2_look, .selects RX2 yX2_look yX2_look, .initialized RX2, .methodLink RX4 54 yX1_knownAt, .instanceMethod yX1_knownAt, .selects RX1 yX1_knownAt yX1_knownAt, .initialized RX1, .methodLink RX4 66 yX4_copyPiece, .instanceMethod yX4_copyPiece, .selects RX4 yX4_copyPiece yX4_copyPiece, .initialized RX4, .code yX2_look cX2_look 6 none, .fieldLink RX2 9 "RecordBench$Piece" "number" "I", .fieldLink RX2 15 "RecordBench$Piece" "withLength" "Z", .fieldLink RX2 19 "RecordBench$Piece" "raw" "J", .fieldLink RX2 23 "RecordBench$Piece" "body" "I", .fieldLink RX2 26 "RecordBench$Piece" "end" "I", .fieldLink RX2 29 "RecordBench$Piece" "fault" "I", .fieldLink RX2 32 "RecordBench$Piece" "pos" "I", .fieldLink RX2 35 "RecordBench$Piece" "broken" "Z", .methodLink RX2 42 yX2_place, .instanceMethod yX2_place, .selects RX2 yX2_place yX2_place, .methodLink RX2 38 yX2_takeVarint, .instanceMethod yX2_takeVarint, .selects RX2 yX2_takeVarint yX2_takeVarint, .code yX2_place cX2_place 6 none, .constantLong RX2 46 (30), .code yX2_takeVarint cX2_takeVarint 7 (some .long), .constantLong RX2 54 (127), .methodLink RX2 48 yX5_byteAt, .instanceMethod yX5_byteAt, .selects RX5 yX5_byteAt yX5_byteAt, .initialized RX5, .code yX5_byteAt cX5_byteAt 2 (some .int), .fieldLink RX5 21 "RecordBench$Row" "size" "I", .fieldLink RX5 15 "RecordBench$Row" "bytes" "[I", .code yX1_knownAt cX1_knownAt 3 (some (.object "RecordBench$Field")), .methodLink RX1 21 yX1_fieldAt, .instanceMethod yX1_fieldAt, .selects RX1 yX1_fieldAt yX1_fieldAt, .code yX1_fieldAt cX1_fieldAt 2 (some (.object "RecordBench$Field")), .fieldLink RX1 11 "RecordBench$Make" "fields" "[LRecordBench$Field;", .code yX4_copyPiece cX4_copyPiece 8 none, .fieldLink RX4 9 "RecordBench$RecordWriter" "makes" "[LRecordBench$Make;", .methodLink RX4 73 yX5_pushKey, .instanceMethod yX5_pushKey, .selects RX5 yX5_pushKey yX5_pushKey, .methodLink RX4 77 yX0_isNumber, .instanceMethod yX0_isNumber, .selects RX0 yX0_isNumber yX0_isNumber, .initialized RX0, .methodLink RX4 39 yX5_size, .instanceMethod yX5_size, .selects RX5 yX5_size yX5_size, .methodLink RX4 102 yX5_push, .instanceMethod yX5_push, .selects RX5 yX5_push yX5_push, .static yX8_makeOf, .initialized RX8, .methodLink RX4 112 yX4_copyAll, .instanceMethod yX4_copyAll, .selects RX4 yX4_copyAll yX4_copyAll, .methodLink RX4 116 yX5_replace, .instanceMethod yX5_replace, .selects RX5 yX5_replace yX5_replace, .methodLink RX4 96 yX5_pushVarint, .instanceMethod yX5_pushVarint, .selects RX5 yX5_pushVarint yX5_pushVarint, .methodLink RX4 51 yX5_append, .instanceMethod yX5_append, .selects RX5 yX5_append yX5_append, .methodLink RX4 81 yX2_asNumber, .instanceMethod yX2_asNumber, .selects RX2 yX2_asNumber yX2_asNumber, .methodLink RX4 85 yX5_pushNumber, .instanceMethod yX5_pushNumber, .selects RX5 yX5_pushNumber yX5_pushNumber, .code yX5_pushKey cX5_pushKey 2 none, .constantLong RX5 37 (2), .methodLink RX5 33 yX5_pushVarint, .methodLink RX5 44 yX0_hasLength, .instanceMethod yX0_hasLength, .selects RX0 yX0_hasLength yX0_hasLength, .code yX5_pushVarint cX5_pushVarint 6 none, .constantLong RX5 29 (-128), .constantLong RX5 31 (127), .methodLink RX5 25 yX5_push, .code yX5_push cX5_push 2 none, .code yX0_hasLength cX0_hasLength 1 (some .boolean), .fieldLink RX0 15 "RecordBench$Field" "kind" "I", .code yX0_isNumber cX0_isNumber 1 (some .boolean), .code yX5_size cX5_size 1 (some .int), .code yX8_makeOf cX8_makeOf 2 (some (.object "RecordBench$Make")), .code yX5_replace cX5_replace 3 none, .code yX5_append cX5_append 5 none, .methodLink RX5 48 yX5_byteAt, .code yX2_asNumber cX2_asNumber 1 (some .long), .code yX5_pushNumber cX5_pushNumber 3 none] : List Cond) ++ wsX40 ++ wsX20 ++ wsX50 ++ wsX00 ++ wsX10)
noncomputable def fX4_copyPiece (F : Nat → (Option Nat) → Int32 → Int32 → (Option Nat) → (Option Nat) → Int32 → CS → Option (CS)) (h0 : Nat) (p0 : Option Nat) (p1 : Int32) (p2 : Option Nat) (p3 : Option Nat) (p4 : Int32) (st : CS) : Option (CS) := pif (p4 < 0) (some st) (gd (qk st h0 = 7) (ono (qP st h0 1) (fun a_3 => gd (qk st a_3 = 25) (pif (p4 < (nI (ql st a_3))) (gd (vp_in p4 (ql st a_3)) (nam (qP st a_3 p4.toNatClampNeg) (fun v_8 => pif (p2 = none) (ono v_8 (fun a_63 => gd (qk st a_63 = 5) (ono p3 (fun a_66 => gd (qk st a_66 = 8) (bnv (fX5_append a_66 p0 p1 (qI st a_63 4) st) (fun st_69 => some st_69)))))) (ono p3 (fun a_10 => gd (qk st a_10 = 8) (bnv (fX5_pushKey a_10 p2 st) (fun st_13 => ono p2 (fun a_16 => gd (qk st_13 a_16 = 3) (bnd (fX0_isNumber a_16 st_13) (fun r_21 st_19 => pif (r_21 = 0) (pif ((qI st_19 a_16 1) = 5) (ono v_8 (fun a_45 => gd (qk st_19 a_45 = 5) (bnv (fX5_pushVarint a_10 (qJ st_19 a_45 2) st_19) (fun st_48 => bnv (fX5_append a_10 p0 (qI st_48 a_45 3) (qI st_48 a_45 4) st_48) (fun st_51 => some st_51))))) (bnd (fX5_size a_10 st_19) (fun r_26 st_24 => bnv (fX5_push a_10 0 st_24) (fun st_27 => ono v_8 (fun a_30 => gd (qk st_27 a_30 = 5) (bnd (fX8_makeOf (qP st_27 h0 0) (qI st_27 a_16 3) st_27) (fun r_35 st_33 => bnv (F h0 p0 (qI st_27 a_30 3) (qI st_27 a_30 4) r_35 p3 (p4 + 1) st_33) (fun st_36 => bnd (fX5_size a_10 st_36) (fun r_41 st_39 => bnv (fX5_replace a_10 r_26 ((r_41 - r_26) - 1) st_39) (fun st_42 => some st_42)))))))))) (ono v_8 (fun a_54 => gd (qk st_19 a_54 = 5) (bnd (fX2_asNumber a_54 st_19) (fun r_59 st_57 => bnv (fX5_pushNumber a_10 r_59 st_57) (fun st_60 => some st_60))))))))))))))) (some st)))))
set_option maxHeartbeats 1000000 in
theorem mo_X4_copyPiece (F : Nat → (Option Nat) → Int32 → Int32 → (Option Nat) → (Option Nat) → Int32 → CS → Option (CS)) (hFm : ∀ (h0 : Nat) (p0 : Option Nat) (p1 : Int32) (p2 : Int32) (p3 : Option Nat) (p4 : Option Nat) (p5 : Int32) (st : CS) (st' : CS), F h0 p0 p1 p2 p3 p4 p5 st = some st' → Ke st st') (h0 : Nat) (p0 : Option Nat) (p1 : Int32) (p2 : Option Nat) (p3 : Option Nat) (p4 : Int32) (st : CS) (st' : CS) (hf : fX4_copyPiece F h0 p0 p1 p2 p3 p4 st = some st') : Ke st st' := by
  unfold fX4_copyPiece at hf
  have hm : Ke st st := Ke.rf
  rcases pif_or hf with ⟨c_1, hf⟩ | ⟨c_1, hf⟩
  · have e2 := Option.some.inj hf
    exact e2 ▸ hm
  · obtain ⟨hk_2, hf⟩ := gd_some hf
    obtain ⟨a_3, ha_4, hf⟩ := ono_some hf
    obtain ⟨hk_5, hf⟩ := gd_some hf
    rcases pif_or hf with ⟨c_6, hf⟩ | ⟨c_6, hf⟩
    · obtain ⟨g_7, hf⟩ := gd_some hf
      obtain ⟨v_8, ev_8, hf⟩ := nam_some hf
      rcases pif_or hf with ⟨c_9, hf⟩ | ⟨c_9, hf⟩
      · obtain ⟨a_63, ha_64, hf⟩ := ono_some hf
        obtain ⟨hk_65, hf⟩ := gd_some hf
        obtain ⟨a_66, ha_67, hf⟩ := ono_some hf
        obtain ⟨hk_68, hf⟩ := gd_some hf
        obtain ⟨st_69, hc_70, hf⟩ := bnv_some hf
        have hm := hm.tr (mo_X5_append a_66 p0 p1 (qI st a_63 4) _ _ hc_70)
        have e2 := Option.some.inj hf
        exact e2 ▸ hm
      · obtain ⟨a_10, ha_11, hf⟩ := ono_some hf
        obtain ⟨hk_12, hf⟩ := gd_some hf
        obtain ⟨st_13, hc_14, hf⟩ := bnv_some hf
        have hm := hm.tr (mo_X5_pushKey a_10 p2 _ _ hc_14)
        obtain ⟨a_16, ha_17, hf⟩ := ono_some hf
        obtain ⟨hk_18, hf⟩ := gd_some hf
        obtain ⟨r_21, st_19, hc_20, hf⟩ := bnd_some hf
        have hm := hm.tr (mo_X0_isNumber a_16 _ _ _ hc_20)
        rcases pif_or hf with ⟨c_22, hf⟩ | ⟨c_22, hf⟩
        · rcases pif_or hf with ⟨c_23, hf⟩ | ⟨c_23, hf⟩
          · obtain ⟨a_45, ha_46, hf⟩ := ono_some hf
            obtain ⟨hk_47, hf⟩ := gd_some hf
            obtain ⟨st_48, hc_49, hf⟩ := bnv_some hf
            have hm := hm.tr (mo_X5_pushVarint a_10 (qJ st_19 a_45 2) _ _ hc_49)
            obtain ⟨st_51, hc_52, hf⟩ := bnv_some hf
            have hm := hm.tr (mo_X5_append a_10 p0 (qI st_48 a_45 3) (qI st_48 a_45 4) _ _ hc_52)
            have e2 := Option.some.inj hf
            exact e2 ▸ hm
          · obtain ⟨r_26, st_24, hc_25, hf⟩ := bnd_some hf
            have hm := hm.tr (mo_X5_size a_10 _ _ _ hc_25)
            obtain ⟨st_27, hc_28, hf⟩ := bnv_some hf
            have hm := hm.tr (mo_X5_push a_10 0 _ _ hc_28)
            obtain ⟨a_30, ha_31, hf⟩ := ono_some hf
            obtain ⟨hk_32, hf⟩ := gd_some hf
            obtain ⟨r_35, st_33, hc_34, hf⟩ := bnd_some hf
            have hm := hm.tr (mo_X8_makeOf (qP st_27 h0 0) (qI st_27 a_16 3) _ _ _ hc_34)
            obtain ⟨st_36, hc_37, hf⟩ := bnv_some hf
            have hm := hm.tr (hFm h0 p0 (qI st_27 a_30 3) (qI st_27 a_30 4) r_35 p3 (p4 + 1) _ _ hc_37)
            obtain ⟨r_41, st_39, hc_40, hf⟩ := bnd_some hf
            have hm := hm.tr (mo_X5_size a_10 _ _ _ hc_40)
            obtain ⟨st_42, hc_43, hf⟩ := bnv_some hf
            have hm := hm.tr (mo_X5_replace a_10 r_26 ((r_41 - r_26) - 1) _ _ hc_43)
            have e2 := Option.some.inj hf
            exact e2 ▸ hm
        · obtain ⟨a_54, ha_55, hf⟩ := ono_some hf
          obtain ⟨hk_56, hf⟩ := gd_some hf
          obtain ⟨r_59, st_57, hc_58, hf⟩ := bnd_some hf
          have hm := hm.tr (mo_X2_asNumber a_54 _ _ _ hc_58)
          obtain ⟨st_60, hc_61, hf⟩ := bnv_some hf
          have hm := hm.tr (mo_X5_pushNumber a_10 r_59 _ _ hc_61)
          have e2 := Option.some.inj hf
          exact e2 ▸ hm
    · have e2 := Option.some.inj hf
      exact e2 ▸ hm
def wq_X4_copyPiece : List Cond := .code yX4_copyPiece cX4_copyPiece 8 none :: (([.fieldLink RX4 17 "RecordBench$RecordWriter" "pieces" "[LRecordBench$Piece;", .fieldLink RX4 9 "RecordBench$RecordWriter" "makes" "[LRecordBench$Make;", .methodLink RX4 73 yX5_pushKey, .instanceMethod yX5_pushKey, .selects RX5 yX5_pushKey yX5_pushKey, .initialized RX5, .methodLink RX4 77 yX0_isNumber, .instanceMethod yX0_isNumber, .selects RX0 yX0_isNumber yX0_isNumber, .initialized RX0, .methodLink RX4 39 yX5_size, .instanceMethod yX5_size, .selects RX5 yX5_size yX5_size, .methodLink RX4 102 yX5_push, .instanceMethod yX5_push, .selects RX5 yX5_push yX5_push, .static yX8_makeOf, .initialized RX8, .methodLink RX4 112 yX4_copyAll, .instanceMethod yX4_copyAll, .selects RX4 yX4_copyAll yX4_copyAll, .initialized RX4, .methodLink RX4 116 yX5_replace, .instanceMethod yX5_replace, .selects RX5 yX5_replace yX5_replace, .methodLink RX4 96 yX5_pushVarint, .instanceMethod yX5_pushVarint, .selects RX5 yX5_pushVarint yX5_pushVarint, .methodLink RX4 51 yX5_append, .instanceMethod yX5_append, .selects RX5 yX5_append yX5_append, .methodLink RX4 81 yX2_asNumber, .instanceMethod yX2_asNumber, .selects RX2 yX2_asNumber yX2_asNumber, .initialized RX2, .methodLink RX4 85 yX5_pushNumber, .instanceMethod yX5_pushNumber, .selects RX5 yX5_pushNumber yX5_pushNumber, .code yX5_pushKey cX5_pushKey 2 none, .constantLong RX5 37 (2), .methodLink RX5 33 yX5_pushVarint, .methodLink RX5 44 yX0_hasLength, .instanceMethod yX0_hasLength, .selects RX0 yX0_hasLength yX0_hasLength, .code yX5_pushVarint cX5_pushVarint 6 none, .constantLong RX5 29 (-128), .constantLong RX5 31 (127), .methodLink RX5 25 yX5_push, .code yX5_push cX5_push 2 none, .fieldLink RX5 21 "RecordBench$Row" "size" "I", .fieldLink RX5 15 "RecordBench$Row" "bytes" "[I", .code yX0_hasLength cX0_hasLength 1 (some .boolean), .fieldLink RX0 15 "RecordBench$Field" "kind" "I", .code yX0_isNumber cX0_isNumber 1 (some .boolean), .code yX5_size cX5_size 1 (some .int), .code yX8_makeOf cX8_makeOf 2 (some (.object "RecordBench$Make")), .code yX4_copyAll cX4_copyAll 10 none, .methodLink RX4 43 yX2_look, .instanceMethod yX2_look, .selects RX2 yX2_look yX2_look, .methodLink RX4 54 yX1_knownAt, .instanceMethod yX1_knownAt, .selects RX1 yX1_knownAt yX1_knownAt, .initialized RX1, .methodLink RX4 66 yX4_copyPiece, .instanceMethod yX4_copyPiece, .selects RX4 yX4_copyPiece yX4_copyPiece, .code yX2_look cX2_look 6 none, .fieldLink RX2 9 "RecordBench$Piece" "number" "I", .fieldLink RX2 15 "RecordBench$Piece" "withLength" "Z", .fieldLink RX2 19 "RecordBench$Piece" "raw" "J", .fieldLink RX2 23 "RecordBench$Piece" "body" "I", .fieldLink RX2 26 "RecordBench$Piece" "end" "I", .fieldLink RX2 29 "RecordBench$Piece" "fault" "I", .fieldLink RX2 32 "RecordBench$Piece" "pos" "I", .fieldLink RX2 35 "RecordBench$Piece" "broken" "Z", .methodLink RX2 42 yX2_place, .instanceMethod yX2_place, .selects RX2 yX2_place yX2_place, .methodLink RX2 38 yX2_takeVarint, .instanceMethod yX2_takeVarint, .selects RX2 yX2_takeVarint yX2_takeVarint, .code yX2_place cX2_place 6 none, .constantLong RX2 46 (30), .code yX2_takeVarint cX2_takeVarint 7 (some .long), .constantLong RX2 54 (127), .methodLink RX2 48 yX5_byteAt, .instanceMethod yX5_byteAt, .selects RX5 yX5_byteAt yX5_byteAt, .code yX5_byteAt cX5_byteAt 2 (some .int), .code yX1_knownAt cX1_knownAt 3 (some (.object "RecordBench$Field")), .methodLink RX1 21 yX1_fieldAt, .instanceMethod yX1_fieldAt, .selects RX1 yX1_fieldAt yX1_fieldAt, .code yX1_fieldAt cX1_fieldAt 2 (some (.object "RecordBench$Field")), .fieldLink RX1 11 "RecordBench$Make" "fields" "[LRecordBench$Field;", .code yX5_replace cX5_replace 3 none, .code yX5_append cX5_append 5 none, .methodLink RX5 48 yX5_byteAt, .code yX2_asNumber cX2_asNumber 1 (some .long), .code yX5_pushNumber cX5_pushNumber 3 none] : List Cond) ++ wsX40 ++ wsX00 ++ wsX20 ++ wsX50 ++ wsX10)
theorem gs_wq_X4_copyPiece_wsX00 : GoodIn wq_X4_copyPiece wsX00 := fun w h => ⟨List.mem_cons_of_mem _ (List.mem_append_left _ (List.mem_append_left _ (List.mem_append_left _ (List.mem_append_right _ h)))), (gt_wsX00 w h).2⟩
theorem gs_wq_X4_copyPiece_wsX50 : GoodIn wq_X4_copyPiece wsX50 := fun w h => ⟨List.mem_cons_of_mem _ (List.mem_append_left _ (List.mem_append_right _ h)), (gt_wsX50 w h).2⟩
set_option maxRecDepth 20000 in
theorem gq_X4_copyPiece_X5_pushKey_73 : GoodIn wq_X4_copyPiece (wsV RX4 73 RX5 yX5_pushKey wq_X5_pushKey) := goodIn_app (goodIn_r _ [3, 4, 5, 6] rfl rfl) (goodIn_ca (goodIn_ca (goodIn_r _ [39, 40, 41, 27, 28, 6, 42, 43, 44, 10, 45, 46, 47, 48, 15, 16, 49, 50, 51, 52, 53] rfl rfl) gs_wq_X4_copyPiece_wsX00) gs_wq_X4_copyPiece_wsX50)
set_option maxRecDepth 20000 in
theorem gq_X4_copyPiece_X0_isNumber_77 : GoodIn wq_X4_copyPiece (wsV RX4 77 RX0 yX0_isNumber wq_X0_isNumber) := goodIn_app (goodIn_r _ [7, 8, 9, 10] rfl rfl) (goodIn_ca (goodIn_r _ [54, 53] rfl rfl) gs_wq_X4_copyPiece_wsX00)
set_option maxRecDepth 20000 in
theorem gq_X4_copyPiece_X5_size_39 : GoodIn wq_X4_copyPiece (wsV RX4 39 RX5 yX5_size wq_X5_size) := goodIn_app (goodIn_r _ [11, 12, 13, 6] rfl rfl) (goodIn_ca (goodIn_r _ [55, 50] rfl rfl) gs_wq_X4_copyPiece_wsX50)
set_option maxRecDepth 20000 in
theorem gq_X4_copyPiece_X5_push_102 : GoodIn wq_X4_copyPiece (wsV RX4 102 RX5 yX5_push wq_X5_push) := goodIn_app (goodIn_r _ [14, 15, 16, 6] rfl rfl) (goodIn_ca (goodIn_r _ [49, 50, 51] rfl rfl) gs_wq_X4_copyPiece_wsX50)
set_option maxRecDepth 20000 in
theorem gq_X4_copyPiece_X8_makeOf_108 : GoodIn wq_X4_copyPiece (wq_X8_makeOf) := (goodIn_r _ [56] rfl rfl)
theorem gs_wq_X4_copyPiece_wsX40 : GoodIn wq_X4_copyPiece wsX40 := fun w h => ⟨List.mem_cons_of_mem _ (List.mem_append_left _ (List.mem_append_left _ (List.mem_append_left _ (List.mem_append_left _ (List.mem_append_right _ h))))), (gt_wsX40 w h).2⟩
theorem gs_wq_X4_copyPiece_wsX20 : GoodIn wq_X4_copyPiece wsX20 := fun w h => ⟨List.mem_cons_of_mem _ (List.mem_append_left _ (List.mem_append_left _ (List.mem_append_right _ h))), (gt_wsX20 w h).2⟩
theorem gs_wq_X4_copyPiece_wsX10 : GoodIn wq_X4_copyPiece wsX10 := fun w h => ⟨List.mem_cons_of_mem _ (List.mem_append_right _ h), (gt_wsX10 w h).2⟩
set_option maxRecDepth 20000 in
theorem gq_X4_copyPiece_X4_copyAll_112 : GoodIn wq_X4_copyPiece (wsV RX4 112 RX4 yX4_copyAll wq_X4_copyAll) := goodIn_app (goodIn_r _ [19, 20, 21, 22] rfl rfl) (goodIn_ca (goodIn_ca (goodIn_ca (goodIn_ca (goodIn_ca (goodIn_r _ [57, 1, 58, 59, 60, 35, 61, 62, 63, 64, 65, 66, 67, 22, 68, 69, 70, 71, 72, 73, 74, 75, 76, 77, 78, 79, 80, 81, 82, 83, 84, 85, 86, 87, 88, 89, 6, 90, 50, 51, 91, 92, 93, 94, 95, 96, 0, 2, 3, 4, 5, 7, 8, 9, 10, 11, 12, 13, 14, 15, 16, 17, 18, 19, 20, 21, 23, 24, 25, 26, 27, 28, 29, 30, 31, 32, 33, 34, 36, 37, 38, 39, 40, 41, 42, 43, 44, 45, 46, 47, 48, 49, 52, 53, 54, 55, 56, 97, 98, 99, 100, 101] rfl rfl) gs_wq_X4_copyPiece_wsX40) gs_wq_X4_copyPiece_wsX20) gs_wq_X4_copyPiece_wsX50) gs_wq_X4_copyPiece_wsX00) gs_wq_X4_copyPiece_wsX10)
set_option maxRecDepth 20000 in
theorem gq_X4_copyPiece_X5_replace_116 : GoodIn wq_X4_copyPiece (wsV RX4 116 RX5 yX5_replace wq_X5_replace) := goodIn_app (goodIn_r _ [23, 24, 25, 6] rfl rfl) (goodIn_ca (goodIn_r _ [97, 50, 51] rfl rfl) gs_wq_X4_copyPiece_wsX50)
set_option maxRecDepth 20000 in
theorem gq_X4_copyPiece_X5_pushVarint_96 : GoodIn wq_X4_copyPiece (wsV RX4 96 RX5 yX5_pushVarint wq_X5_pushVarint) := goodIn_app (goodIn_r _ [26, 27, 28, 6] rfl rfl) (goodIn_ca (goodIn_r _ [45, 46, 47, 48, 15, 16, 6, 49, 50, 51] rfl rfl) gs_wq_X4_copyPiece_wsX50)
set_option maxRecDepth 20000 in
theorem gq_X4_copyPiece_X5_append_51 : GoodIn wq_X4_copyPiece (wsV RX4 51 RX5 yX5_append wq_X5_append) := goodIn_app (goodIn_r _ [29, 30, 31, 6] rfl rfl) (goodIn_ca (goodIn_r _ [98, 99, 88, 89, 6, 48, 15, 16, 90, 50, 51, 49] rfl rfl) gs_wq_X4_copyPiece_wsX50)
set_option maxRecDepth 20000 in
theorem gq_X4_copyPiece_X2_asNumber_81 : GoodIn wq_X4_copyPiece (wsV RX4 81 RX2 yX2_asNumber wq_X2_asNumber) := goodIn_app (goodIn_r _ [32, 33, 34, 35] rfl rfl) (goodIn_ca (goodIn_r _ [100, 71] rfl rfl) gs_wq_X4_copyPiece_wsX20)
set_option maxRecDepth 20000 in
theorem gq_X4_copyPiece_X5_pushNumber_85 : GoodIn wq_X4_copyPiece (wsV RX4 85 RX5 yX5_pushNumber wq_X5_pushNumber) := goodIn_app (goodIn_r _ [36, 37, 38, 6] rfl rfl) (goodIn_ca (goodIn_r _ [101, 41, 27, 28, 6, 45, 46, 47, 48, 15, 16, 49, 50, 51] rfl rfl) gs_wq_X4_copyPiece_wsX50)
set_option maxHeartbeats 4000000 in
set_option maxRecDepth 100000 in
theorem c_X4_copyPiece (l : Launch) (dC : Nat → ClassId) (dI : Nat → Nat → Nat) (ka ad : Nat → Nat) (ct : Nat → ClassId) (F : Nat → (Option Nat) → Int32 → Int32 → (Option Nat) → (Option Nat) → Int32 → CS → Option (CS)) (hFm : ∀ (h0 : Nat) (p0 : Option Nat) (p1 : Int32) (p2 : Int32) (p3 : Option Nat) (p4 : Option Nat) (p5 : Int32) (st : CS) (st' : CS), F h0 p0 p1 p2 p3 p4 p5 st = some st' → Ke st st') (fr lo : Nat) (hF : ∀ (h0 : Nat) (p0 : Option Nat) (p1 : Int32) (p2 : Int32) (p3 : Option Nat) (p4 : Option Nat) (p5 : Int32) (st st' : CS) (hf : F h0 p0 p1 p2 p3 p4 p5 st = some st') (sz : Nat), Met l yX4_copyAll wq_X4_copyAll ({ frames := fr, cells := 0, slots := 0, locals := lo }) (va_Pc [.ref (ad h0), va_rf (Option.map ad p0), .int p1, .int p2, va_rf (Option.map ad p3), va_rf (Option.map ad p4), .int p5] (PrC (dC, dI) ct ka ad st sz)) (va_Qv (fun (_ : Unit) => True) (fun _ => CB (dC, dI) ct ka ad st' (aC ad st sz)) (aC ad st sz)) 0 0 (aC ad st sz)) (h0 : Nat) (p0 : Option Nat) (p1 : Int32) (p2 : Option Nat) (p3 : Option Nat) (p4 : Int32) (st st' : CS) (hf : fX4_copyPiece F h0 p0 p1 p2 p3 p4 st = some st') (sz : Nat) : Met l yX4_copyPiece wq_X4_copyPiece ({ frames := fr + 3, cells := 0, slots := 0, locals := lo + 80 }) (va_Pc [.ref (ad h0), va_rf (Option.map ad p0), .int p1, va_rf (Option.map ad p2), va_rf (Option.map ad p3), .int p4] (PrC (dC, dI) ct ka ad st sz)) (va_Qv (fun (_ : Unit) => True) (fun _ => CB (dC, dI) ct ka ad st' (aC ad st sz)) (aC ad st sz)) 0 0 (aC ad st sz) := by
  refine Met.ofW (cc := cX4_copyPiece) (maxL := 8) (ret := none) (by decide) rfl ?_
  intro p e s m args below meth c s₁ B hml hv
  obtain ⟨rfl, hsz, hw0, hK, hN, hZ, hC, hR, hL, hw1, hw2⟩ := hv
  have hx := B.exec
  have hb := B.bytes
  have hr := B.returns
  have hts := atoms_spec (ws := wq_X4_copyPiece) B.pre
  have hown : s.vm.findClass RX4 = some m.cls := findClass_of_methodNamed B.named
  have iRX4 : ∀ w ∈ u_ws RX4 TX4 3, w ∈ wq_X4_copyPiece := fun w h => List.mem_cons_of_mem _ (List.mem_append_left _ (List.mem_append_left _ (List.mem_append_left _ (List.mem_append_left _ (List.mem_append_right _ h)))))
  have iRX0 : ∀ w ∈ u_ws RX0 TX0 7, w ∈ wq_X4_copyPiece := fun w h => List.mem_cons_of_mem _ (List.mem_append_left _ (List.mem_append_left _ (List.mem_append_left _ (List.mem_append_right _ h))))
  have iRX2 : ∀ w ∈ u_ws RX2 TX2 8, w ∈ wq_X4_copyPiece := fun w h => List.mem_cons_of_mem _ (List.mem_append_left _ (List.mem_append_left _ (List.mem_append_right _ h)))
  subst hsz
  have hp : Cp (dC, dI) ka ad ct (aC ad st s.heap.size) s.heap st s.heap [] := ⟨fun i a b => ⟨hw0 i a b, Or.inl ⟨i, a, b, rfl⟩⟩, va_S.rf, hw1, hw2⟩
  generalize hAe : aC ad st s.heap.size = A at hp hZ hC ⊢
  have hA : ∀ q : Nat, s.heap.size ≤ q → A q := fun q h => by rw [← hAe]; exact Or.inr h
  have hl := lv_entry ([.ref (ad h0), va_rf (Option.map ad p0), .int p1, va_rf (Option.map ad p2), va_rf (Option.map ad p3), .int p4]) (n := 8) (by simp [lg_sl, rf_cat, vc_i, vc_l, vc_r, vc_n])
  rw [lg_entry_eq]
  generalize (lg_sl ([.ref (ad h0), va_rf (Option.map ad p0), .int p1, va_rf (Option.map ad p2), va_rf (Option.map ad p3), .int p4]) ++ List.replicate (8 - (lg_sl ([.ref (ad h0), va_rf (Option.map ad p0), .int p1, va_rf (Option.map ad p2), va_rf (Option.map ad p3), .int p4])).length) Slot.unset).toArray = ls at hl ⊢
  have hl : lv_has ls 8 [(0, .ref (ad h0)), (1, va_rf (Option.map ad p0)), (2, .int p1), (3, va_rf (Option.map ad p2)), (4, va_rf (Option.map ad p3)), (5, .int p4)] := by simpa [lv_args, rf_cat, vc_i, vc_l, vc_r, vc_n] using hl
  unfold fX4_copyPiece at hf
  refine lv_iload hx hb dX4_copyPiece_0 (lv_at hl 5 rfl) ?_
  refine lv_if_lt (tgt := 15) hx hb dX4_copyPiece_2 (by decide) (fun c_1 => ?_) (fun c_1 => ?_)
  · have hf := pif_t c_1 hf
    have e2 := Option.some.inj hf
    exact W.vret hx hb hr (fun t ht hW => ⟨⟨(), rfl, trivial, Cp.end e2 hp ht⟩, hp.2.1.F ht⟩) hp.2.1.2.2 dX4_copyPiece_15
  · have hf := pif_f c_1 hf
    refine lv_iload hx hb dX4_copyPiece_5 (lv_at hl 5 rfl) ?_
    refine lv_aload_n hx hb dX4_copyPiece_7 rfl (lv_at hl 0 rfl) ?_
    obtain ⟨hk_2, hf⟩ := gd_some hf
    refine q_gp (ci := 6) (C := RX4) (T := TX4) (N := 3) (k := 1) hx hb hts iRX4 hown hK hp hk_2 (by decide) rfl rfl (by decide) rfl (Or.inl (hts (.fieldLink RX4 17 "RecordBench$RecordWriter" "pieces" "[LRecordBench$Piece;") (by decide +kernel))) (fun _ h9 => h9) dX4_copyPiece_8 ?_
    obtain ⟨a_3, ha_4, hf⟩ := ono_some hf
    refine o_at ha_4 ?_
    obtain ⟨hk_5, hf⟩ := gd_some hf
    refine q_len (t0 := 4) hx hb hK hp (hp.2.2.1.ge hk_5 (by decide) (by decide) (by decide)) hk_5 (by decide) rfl dX4_copyPiece_11 ?_
    refine lv_icmp_lt (tgt := 16) hx hb dX4_copyPiece_12 (by decide) (fun c_6 => ?_) (fun c_6 => ?_)
    · have hf := pif_t c_6 hf
      refine lv_aload_n hx hb dX4_copyPiece_16 rfl (lv_at hl 0 rfl) ?_
      refine q_gp (ci := 6) (C := RX4) (T := TX4) (N := 3) (k := 1) hx hb hts iRX4 hown hK hp hk_2 (by decide) rfl rfl (by decide) rfl (Or.inl (hts (.fieldLink RX4 17 "RecordBench$RecordWriter" "pieces" "[LRecordBench$Piece;") (by decide +kernel))) (fun _ h9 => h9) dX4_copyPiece_17 ?_
      refine lv_iload hx hb dX4_copyPiece_20 (lv_at hl 5 rfl) ?_
      refine o_at1 ha_4 ?_
      obtain ⟨g_7, hf⟩ := gd_some hf
      refine q_aq (t0 := 4) hx hb hK hp hk_5 (by decide) rfl g_7 dX4_copyPiece_22 ?_
      obtain ⟨v_8, ev_8, hf⟩ := nam_some hf
      refine W_too (y := v_8) ev_8.symm ?_
      refine o_astore (i := 6) (lv' := [(6, va_rf (Option.map ad v_8)), (0, .ref (ad h0)), (1, va_rf (Option.map ad p0)), (2, .int p1), (3, va_rf (Option.map ad p2)), (4, va_rf (Option.map ad p3)), (5, .int p4)]) hx hb dX4_copyPiece_23 hl (by decide) rfl (fun ls hl => ?_)
      refine o_aload_n hx hb dX4_copyPiece_25 rfl (lv_at hl 4 rfl) ?_
      refine o_ifnonnull (tgt := 42) hx hb dX4_copyPiece_26 (by decide) (fun c_9 => ?_) (fun c_9 => ?_)
      · have hf := pif_f c_9 hf
        refine o_aload hx hb dX4_copyPiece_42 (lv_at hl 5 rfl) ?_
        refine o_aload_n hx hb dX4_copyPiece_44 rfl (lv_at hl 4 rfl) ?_
        obtain ⟨a_10, ha_11, hf⟩ := ono_some hf
        refine o_at1 ha_11 ?_
        obtain ⟨hk_12, hf⟩ := gd_some hf
        obtain ⟨st_13, hc_14, hf⟩ := bnv_some hf
        refine q_cv hp hA (va_runV (As := [va_rf (Option.map ad p2)]) (rest := []) ⟨hx, hb, hml, hown, hts⟩ (c_X5_pushKey l dC dI ka ad ct a_10 p2 _ _ hc_14 _) (cwV 1 hts gq_X4_copyPiece_X5_pushKey_73 rfl rfl rfl (by decide +kernel) ⟨by show 2 + 1 ≤ fr + 3; omega, by show 8 + (2 + 11) + 54 ≤ lo + 80; omega⟩) ⟨PrC.blind _, q_rv7 hK hp hC hk_12, q_pre hp hK hN hZ hC hR hL hA⟩ rfl rfl hl.1 rfl (lv_room (Nat.le_of_ble_eq_true rfl)) dX4_copyPiece_45 ⟨Nat.le_of_ble_eq_true rfl, Nat.le_of_ble_eq_true rfl⟩) (fun H locs hp => ?_)
        have hk_2 : qk st_13 h0 = 7 := by rw [(mo_X5_pushKey a_10 p2 _ _ hc_14).2.2.1]; exact hk_2
        have hk_5 : qk st_13 a_3 = 25 := by rw [(mo_X5_pushKey a_10 p2 _ _ hc_14).2.2.1]; exact hk_5
        have hk_12 : qk st_13 a_10 = 8 := by rw [(mo_X5_pushKey a_10 p2 _ _ hc_14).2.2.1]; exact hk_12
        refine o_aload_n hx hb dX4_copyPiece_48 rfl (lv_at hl 4 rfl) ?_
        obtain ⟨a_16, ha_17, hf⟩ := ono_some hf
        refine o_at ha_17 ?_
        obtain ⟨hk_18, hf⟩ := gd_some hf
        obtain ⟨r_21, st_19, hc_20, hf⟩ := bnd_some hf
        refine q_ci hp hA (va_runV (As := []) (rest := []) ⟨hx, hb, hml, hown, hts⟩ (c_X0_isNumber l dC dI ka ad ct a_16 _ _ _ hc_20 _) (cwV 0 hts gq_X4_copyPiece_X0_isNumber_77 rfl rfl rfl (by decide +kernel) ⟨by show 0 + 1 ≤ fr + 3; omega, by show 8 + (1 + 11) + 0 ≤ lo + 80; omega⟩) ⟨PrC.blind _, q_rv2 hK hp hC hk_18, q_pre hp hK hN hZ hC hR hL hA⟩ rfl rfl hl.1 rfl (lv_room (Nat.le_of_ble_eq_true rfl)) dX4_copyPiece_49 ⟨Nat.le_of_ble_eq_true rfl, Nat.le_of_ble_eq_true rfl⟩) (fun H locs hp => ?_)
        have hk_2 : qk st_19 h0 = 7 := by rw [(mo_X0_isNumber a_16 _ _ _ hc_20).2.2.1]; exact hk_2
        have hk_5 : qk st_19 a_3 = 25 := by rw [(mo_X0_isNumber a_16 _ _ _ hc_20).2.2.1]; exact hk_5
        have hk_12 : qk st_19 a_10 = 8 := by rw [(mo_X0_isNumber a_16 _ _ _ hc_20).2.2.1]; exact hk_12
        have hk_18 : qk st_19 a_16 = 3 := by rw [(mo_X0_isNumber a_16 _ _ _ hc_20).2.2.1]; exact hk_18
        refine lv_if_eq (tgt := 68) hx hb dX4_copyPiece_52 (by decide) (fun c_22 => ?_) (fun c_22 => ?_)
        · have hf := pif_t c_22 hf
          refine o_aload_n hx hb dX4_copyPiece_68 rfl (lv_at hl 4 rfl) ?_
          refine o_at ha_17 ?_
          refine q_gi (ci := 2) (C := RX0) (T := TX0) (N := 7) (k := 1) hx hb hts iRX0 hown hK hp hk_18 (by decide) rfl rfl (by decide) rfl (Or.inr ⟨_, va_Nw.use rfl (hN.1 (.fieldLinkNest RX4 89 "RecordBench$Field" "kind" "I" "RecordBench") (by decide +kernel))⟩) (fun _ h9 => h9) dX4_copyPiece_69 ?_
          refine lv_iconst (v := 5) hx hb dX4_copyPiece_72 (by decide) ?_
          refine lv_icmp_ne (tgt := 105) hx hb dX4_copyPiece_73 (by decide) (fun c_23 => ?_) (fun c_23 => ?_)
          · have hf := pif_f c_23 hf
            refine o_aload hx hb dX4_copyPiece_105 (lv_at hl 5 rfl) ?_
            refine o_at ha_11 ?_
            obtain ⟨r_26, st_24, hc_25, hf⟩ := bnd_some hf
            refine q_ci hp hA (va_runV (As := []) (rest := []) ⟨hx, hb, hml, hown, hts⟩ (c_X5_size l dC dI ka ad ct a_10 _ _ _ hc_25 _) (cwV 0 hts gq_X4_copyPiece_X5_size_39 rfl rfl rfl (by decide +kernel) ⟨by show 0 + 1 ≤ fr + 3; omega, by show 8 + (1 + 11) + 0 ≤ lo + 80; omega⟩) ⟨PrC.blind _, q_rv7 hK hp hC hk_12, q_pre hp hK hN hZ hC hR hL hA⟩ rfl rfl hl.1 rfl (lv_room (Nat.le_of_ble_eq_true rfl)) dX4_copyPiece_107 ⟨Nat.le_of_ble_eq_true rfl, Nat.le_of_ble_eq_true rfl⟩) (fun H locs hp => ?_)
            have hk_2 : qk st_24 h0 = 7 := by rw [(mo_X5_size a_10 _ _ _ hc_25).2.2.1]; exact hk_2
            have hk_5 : qk st_24 a_3 = 25 := by rw [(mo_X5_size a_10 _ _ _ hc_25).2.2.1]; exact hk_5
            have hk_12 : qk st_24 a_10 = 8 := by rw [(mo_X5_size a_10 _ _ _ hc_25).2.2.1]; exact hk_12
            have hk_18 : qk st_24 a_16 = 3 := by rw [(mo_X5_size a_10 _ _ _ hc_25).2.2.1]; exact hk_18
            refine lv_istore (i := 7) (lv' := [(7, .int r_26), (6, va_rf (Option.map ad v_8)), (0, .ref (ad h0)), (1, va_rf (Option.map ad p0)), (2, .int p1), (3, va_rf (Option.map ad p2)), (4, va_rf (Option.map ad p3)), (5, .int p4)]) hx hb dX4_copyPiece_110 hl (by decide) (by simp [rf_cat, vc_i, vc_l, vc_r, vc_n]) (fun ls hl => ?_)
            refine o_aload hx hb dX4_copyPiece_112 (lv_at hl 6 rfl) ?_
            refine lv_iconst (v := 0) hx hb dX4_copyPiece_114 (by decide) ?_
            refine o_at1 ha_11 ?_
            obtain ⟨st_27, hc_28, hf⟩ := bnv_some hf
            refine q_cv hp hA (va_runV (As := [.int 0]) (rest := []) ⟨hx, hb, hml, hown, hts⟩ (c_X5_push l dC dI ka ad ct a_10 0 _ _ hc_28 _) (cwV 1 hts gq_X4_copyPiece_X5_push_102 rfl rfl rfl (by decide +kernel) ⟨by show 0 + 1 ≤ fr + 3; omega, by show 8 + (2 + 11) + 0 ≤ lo + 80; omega⟩) ⟨PrC.blind _, q_rv7 hK hp hC hk_12, q_pre hp hK hN hZ hC hR hL hA⟩ rfl rfl hl.1 rfl (lv_room (Nat.le_of_ble_eq_true rfl)) dX4_copyPiece_115 ⟨Nat.le_of_ble_eq_true rfl, Nat.le_of_ble_eq_true rfl⟩) (fun H locs hp => ?_)
            have hk_2 : qk st_27 h0 = 7 := by rw [(mo_X5_push a_10 0 _ _ hc_28).2.2.1]; exact hk_2
            have hk_5 : qk st_27 a_3 = 25 := by rw [(mo_X5_push a_10 0 _ _ hc_28).2.2.1]; exact hk_5
            have hk_12 : qk st_27 a_10 = 8 := by rw [(mo_X5_push a_10 0 _ _ hc_28).2.2.1]; exact hk_12
            have hk_18 : qk st_27 a_16 = 3 := by rw [(mo_X5_push a_10 0 _ _ hc_28).2.2.1]; exact hk_18
            refine lv_aload_n hx hb dX4_copyPiece_118 rfl (lv_at hl 2 rfl) ?_
            refine o_aload_n hx hb dX4_copyPiece_119 rfl (lv_at hl 3 rfl) ?_
            refine o_aload hx hb dX4_copyPiece_120 (lv_at hl 1 rfl) ?_
            obtain ⟨a_30, ha_31, hf⟩ := ono_some hf
            refine o_at ha_31 ?_
            obtain ⟨hk_32, hf⟩ := gd_some hf
            refine q_gi (ci := 4) (C := RX2) (T := TX2) (N := 8) (k := 3) hx hb hts iRX2 hown hK hp hk_32 (by decide) rfl rfl (by decide) rfl (Or.inr ⟨_, va_Nw.use rfl (hN.1 (.fieldLinkNest RX4 99 "RecordBench$Piece" "body" "I" "RecordBench") (by decide +kernel))⟩) (fun _ h9 => h9) dX4_copyPiece_122 ?_
            refine o_aload hx hb dX4_copyPiece_125 (lv_at hl 1 rfl) ?_
            refine o_at ha_31 ?_
            refine q_gi (ci := 4) (C := RX2) (T := TX2) (N := 8) (k := 4) hx hb hts iRX2 hown hK hp hk_32 (by decide) rfl rfl (by decide) rfl (Or.inr ⟨_, va_Nw.use rfl (hN.1 (.fieldLinkNest RX4 70 "RecordBench$Piece" "end" "I" "RecordBench") (by decide +kernel))⟩) (fun _ h9 => h9) dX4_copyPiece_127 ?_
            refine lv_aload_n hx hb dX4_copyPiece_130 rfl (lv_at hl 2 rfl) ?_
            refine q_gp (ci := 6) (C := RX4) (T := TX4) (N := 3) (k := 0) hx hb hts iRX4 hown hK hp hk_2 (by decide) rfl rfl (by decide) rfl (Or.inl (hts (.fieldLink RX4 9 "RecordBench$RecordWriter" "makes" "[LRecordBench$Make;") (by decide +kernel))) (fun _ h9 => h9) dX4_copyPiece_131 ?_
            refine o_aload_n hx hb dX4_copyPiece_134 rfl (lv_at hl 5 rfl) ?_
            refine o_at ha_17 ?_
            refine q_gi (ci := 2) (C := RX0) (T := TX0) (N := 7) (k := 3) hx hb hts iRX0 hown hK hp hk_18 (by decide) rfl rfl (by decide) rfl (Or.inr ⟨_, va_Nw.use rfl (hN.1 (.fieldLinkNest RX4 105 "RecordBench$Field" "rec" "I" "RecordBench") (by decide +kernel))⟩) (fun _ h9 => h9) dX4_copyPiece_135 ?_
            obtain ⟨r_35, st_33, hc_34, hf⟩ := bnd_some hf
            refine q_cq hp hA (va_runSN (As := [va_rf (Option.map ad (qP st_27 h0 0)), .int (qI st_27 a_16 3)]) (rest := [.int (qI st_27 a_30 4), .int (qI st_27 a_30 3), va_rf (Option.map ad p0), .ref (ad h0)]) ⟨hx, hb, hml, hown, hts⟩ (c_X8_makeOf l dC dI ka ad ct (qP st_27 h0 0) (qI st_27 a_16 3) _ _ _ hc_34 _) ⟨va_cnB 2 hts gq_X4_copyPiece_X8_makeOf_108 rfl rfl rfl (hN.1 (.methodLinkNest RX4 108 yX8_makeOf "RecordBench") (by decide +kernel)) (hts (.initialized RX8) (by decide +kernel)) (by decide +kernel) ⟨by show 0 + 1 ≤ fr + 3; omega, by show 8 + (2 + 11) + 0 ≤ lo + 80; omega⟩, (hts (.static yX8_makeOf) (by decide +kernel)), trivial⟩ ⟨PrC.blind _, q_pre hp hK hN hZ hC hR hL hA⟩ rfl rfl hl.1 rfl (lv_room (by simp [rf_cat, vc_i, vc_l, vc_r, vc_n])) dX4_copyPiece_138 ⟨Nat.le_of_ble_eq_true rfl, Nat.le_of_ble_eq_true rfl⟩) (fun H locs hp => ?_)
            have hk_2 : qk st_33 h0 = 7 := by rw [(mo_X8_makeOf (qP st_27 h0 0) (qI st_27 a_16 3) _ _ _ hc_34).2.2.1]; exact hk_2
            have hk_5 : qk st_33 a_3 = 25 := by rw [(mo_X8_makeOf (qP st_27 h0 0) (qI st_27 a_16 3) _ _ _ hc_34).2.2.1]; exact hk_5
            have hk_12 : qk st_33 a_10 = 8 := by rw [(mo_X8_makeOf (qP st_27 h0 0) (qI st_27 a_16 3) _ _ _ hc_34).2.2.1]; exact hk_12
            have hk_18 : qk st_33 a_16 = 3 := by rw [(mo_X8_makeOf (qP st_27 h0 0) (qI st_27 a_16 3) _ _ _ hc_34).2.2.1]; exact hk_18
            have hk_32 : qk st_33 a_30 = 5 := by rw [(mo_X8_makeOf (qP st_27 h0 0) (qI st_27 a_16 3) _ _ _ hc_34).2.2.1]; exact hk_32
            refine o_aload hx hb dX4_copyPiece_141 (lv_at hl 6 rfl) ?_
            refine lv_iload hx hb dX4_copyPiece_143 (lv_at hl 7 rfl) ?_
            refine lv_iconst (v := 1) hx hb dX4_copyPiece_145 (by decide) ?_
            refine lv_iadd hx hb dX4_copyPiece_146 ?_
            obtain ⟨st_36, hc_37, hf⟩ := bnv_some hf
            refine q_cv hp hA (va_runV (As := [va_rf (Option.map ad p0), .int (qI st_27 a_30 3), .int (qI st_27 a_30 4), va_rf (Option.map ad r_35), va_rf (Option.map ad p3), .int (p4 + 1)]) (rest := []) ⟨hx, hb, hml, hown, hts⟩ (hF h0 p0 (qI st_27 a_30 3) (qI st_27 a_30 4) r_35 p3 (p4 + 1) _ _ hc_37 _) (cwV 6 hts gq_X4_copyPiece_X4_copyAll_112 rfl rfl rfl (by decide +kernel) ⟨by show fr + 1 ≤ fr + 3; omega, by show 8 + (10 + 11) + lo ≤ lo + 80; omega⟩) ⟨PrC.blind _, q_rv6 hK hp hC hk_2, q_pre hp hK hN hZ hC hR hL hA⟩ rfl rfl hl.1 rfl (lv_room (Nat.le_of_ble_eq_true rfl)) dX4_copyPiece_147 ⟨Nat.le_of_ble_eq_true rfl, Nat.le_of_ble_eq_true rfl⟩) (fun H locs hp => ?_)
            have hk_2 : qk st_36 h0 = 7 := by rw [(hFm h0 p0 (qI st_27 a_30 3) (qI st_27 a_30 4) r_35 p3 (p4 + 1) _ _ hc_37).2.2.1]; exact hk_2
            have hk_5 : qk st_36 a_3 = 25 := by rw [(hFm h0 p0 (qI st_27 a_30 3) (qI st_27 a_30 4) r_35 p3 (p4 + 1) _ _ hc_37).2.2.1]; exact hk_5
            have hk_12 : qk st_36 a_10 = 8 := by rw [(hFm h0 p0 (qI st_27 a_30 3) (qI st_27 a_30 4) r_35 p3 (p4 + 1) _ _ hc_37).2.2.1]; exact hk_12
            have hk_18 : qk st_36 a_16 = 3 := by rw [(hFm h0 p0 (qI st_27 a_30 3) (qI st_27 a_30 4) r_35 p3 (p4 + 1) _ _ hc_37).2.2.1]; exact hk_18
            have hk_32 : qk st_36 a_30 = 5 := by rw [(hFm h0 p0 (qI st_27 a_30 3) (qI st_27 a_30 4) r_35 p3 (p4 + 1) _ _ hc_37).2.2.1]; exact hk_32
            refine o_aload hx hb dX4_copyPiece_150 (lv_at hl 6 rfl) ?_
            refine lv_iload hx hb dX4_copyPiece_152 (lv_at hl 0 rfl) ?_
            refine o_aload hx hb dX4_copyPiece_154 (lv_at hl 6 rfl) ?_
            refine o_at ha_11 ?_
            obtain ⟨r_41, st_39, hc_40, hf⟩ := bnd_some hf
            refine q_ci hp hA (va_runV (As := []) (rest := [.int r_26, va_rf (Option.map ad p3)]) ⟨hx, hb, hml, hown, hts⟩ (c_X5_size l dC dI ka ad ct a_10 _ _ _ hc_40 _) (cwV 0 hts gq_X4_copyPiece_X5_size_39 rfl rfl rfl (by decide +kernel) ⟨by show 0 + 1 ≤ fr + 3; omega, by show 8 + (1 + 11) + 0 ≤ lo + 80; omega⟩) ⟨PrC.blind _, q_rv7 hK hp hC hk_12, q_pre hp hK hN hZ hC hR hL hA⟩ rfl rfl hl.1 rfl (lv_room (by simp [rf_cat, vc_i, vc_l, vc_r, vc_n])) dX4_copyPiece_156 ⟨Nat.le_of_ble_eq_true rfl, Nat.le_of_ble_eq_true rfl⟩) (fun H locs hp => ?_)
            have hk_2 : qk st_39 h0 = 7 := by rw [(mo_X5_size a_10 _ _ _ hc_40).2.2.1]; exact hk_2
            have hk_5 : qk st_39 a_3 = 25 := by rw [(mo_X5_size a_10 _ _ _ hc_40).2.2.1]; exact hk_5
            have hk_12 : qk st_39 a_10 = 8 := by rw [(mo_X5_size a_10 _ _ _ hc_40).2.2.1]; exact hk_12
            have hk_18 : qk st_39 a_16 = 3 := by rw [(mo_X5_size a_10 _ _ _ hc_40).2.2.1]; exact hk_18
            have hk_32 : qk st_39 a_30 = 5 := by rw [(mo_X5_size a_10 _ _ _ hc_40).2.2.1]; exact hk_32
            refine lv_iload hx hb dX4_copyPiece_159 (lv_at hl 0 rfl) ?_
            refine lv_isub hx hb dX4_copyPiece_161 ?_
            refine lv_iconst (v := 1) hx hb dX4_copyPiece_162 (by decide) ?_
            refine lv_isub hx hb dX4_copyPiece_163 ?_
            refine o_at2 ha_11 ?_
            obtain ⟨st_42, hc_43, hf⟩ := bnv_some hf
            refine q_cv hp hA (va_runV (As := [.int r_26, .int ((r_41 - r_26) - 1)]) (rest := []) ⟨hx, hb, hml, hown, hts⟩ (c_X5_replace l dC dI ka ad ct a_10 r_26 ((r_41 - r_26) - 1) _ _ hc_43 _) (cwV 2 hts gq_X4_copyPiece_X5_replace_116 rfl rfl rfl (by decide +kernel) ⟨by show 0 + 1 ≤ fr + 3; omega, by show 8 + (3 + 11) + 0 ≤ lo + 80; omega⟩) ⟨PrC.blind _, q_rv7 hK hp hC hk_12, q_pre hp hK hN hZ hC hR hL hA⟩ rfl rfl hl.1 rfl (lv_room (Nat.le_of_ble_eq_true rfl)) dX4_copyPiece_164 ⟨Nat.le_of_ble_eq_true rfl, Nat.le_of_ble_eq_true rfl⟩) (fun H locs hp => ?_)
            have hk_2 : qk st_42 h0 = 7 := by rw [(mo_X5_replace a_10 r_26 ((r_41 - r_26) - 1) _ _ hc_43).2.2.1]; exact hk_2
            have hk_5 : qk st_42 a_3 = 25 := by rw [(mo_X5_replace a_10 r_26 ((r_41 - r_26) - 1) _ _ hc_43).2.2.1]; exact hk_5
            have hk_12 : qk st_42 a_10 = 8 := by rw [(mo_X5_replace a_10 r_26 ((r_41 - r_26) - 1) _ _ hc_43).2.2.1]; exact hk_12
            have hk_18 : qk st_42 a_16 = 3 := by rw [(mo_X5_replace a_10 r_26 ((r_41 - r_26) - 1) _ _ hc_43).2.2.1]; exact hk_18
            have hk_32 : qk st_42 a_30 = 5 := by rw [(mo_X5_replace a_10 r_26 ((r_41 - r_26) - 1) _ _ hc_43).2.2.1]; exact hk_32
            have e2 := Option.some.inj hf
            exact W.vret hx hb hr (fun t ht hW => ⟨⟨(), rfl, trivial, Cp.end e2 hp ht⟩, hp.2.1.F ht⟩) hp.2.1.2.2 dX4_copyPiece_167
          · have hf := pif_t c_23 hf
            refine o_aload hx hb dX4_copyPiece_76 (lv_at hl 5 rfl) ?_
            refine o_aload hx hb dX4_copyPiece_78 (lv_at hl 0 rfl) ?_
            obtain ⟨a_45, ha_46, hf⟩ := ono_some hf
            refine o_at ha_46 ?_
            obtain ⟨hk_47, hf⟩ := gd_some hf
            refine q_gj (ci := 4) (C := RX2) (T := TX2) (N := 8) (k := 2) hx hb hts iRX2 hown hK hp hk_47 (by decide) rfl rfl (by decide) rfl (Or.inr ⟨_, va_Nw.use rfl (hN.1 (.fieldLinkNest RX4 92 "RecordBench$Piece" "raw" "J" "RecordBench") (by decide +kernel))⟩) (fun _ h9 => h9) dX4_copyPiece_80 ?_
            refine o_at1 ha_11 ?_
            obtain ⟨st_48, hc_49, hf⟩ := bnv_some hf
            refine q_cv hp hA (va_runV (As := [.long (qJ st_19 a_45 2)]) (rest := []) ⟨hx, hb, hml, hown, hts⟩ (c_X5_pushVarint l dC dI ka ad ct a_10 (qJ st_19 a_45 2) _ _ hc_49 _) (cwV 1 hts gq_X4_copyPiece_X5_pushVarint_96 rfl rfl rfl (by decide +kernel) ⟨by show 1 + 1 ≤ fr + 3; omega, by show 8 + (6 + 11) + 25 ≤ lo + 80; omega⟩) ⟨PrC.blind _, q_rv7 hK hp hC hk_12, q_pre hp hK hN hZ hC hR hL hA⟩ rfl rfl hl.1 rfl (lv_room (Nat.le_of_ble_eq_true rfl)) dX4_copyPiece_83 ⟨Nat.le_of_ble_eq_true rfl, Nat.le_of_ble_eq_true rfl⟩) (fun H locs hp => ?_)
            have hk_2 : qk st_48 h0 = 7 := by rw [(mo_X5_pushVarint a_10 (qJ st_19 a_45 2) _ _ hc_49).2.2.1]; exact hk_2
            have hk_5 : qk st_48 a_3 = 25 := by rw [(mo_X5_pushVarint a_10 (qJ st_19 a_45 2) _ _ hc_49).2.2.1]; exact hk_5
            have hk_12 : qk st_48 a_10 = 8 := by rw [(mo_X5_pushVarint a_10 (qJ st_19 a_45 2) _ _ hc_49).2.2.1]; exact hk_12
            have hk_18 : qk st_48 a_16 = 3 := by rw [(mo_X5_pushVarint a_10 (qJ st_19 a_45 2) _ _ hc_49).2.2.1]; exact hk_18
            have hk_47 : qk st_48 a_45 = 5 := by rw [(mo_X5_pushVarint a_10 (qJ st_19 a_45 2) _ _ hc_49).2.2.1]; exact hk_47
            refine o_aload hx hb dX4_copyPiece_86 (lv_at hl 5 rfl) ?_
            refine o_aload_n hx hb dX4_copyPiece_88 rfl (lv_at hl 2 rfl) ?_
            refine o_aload hx hb dX4_copyPiece_89 (lv_at hl 0 rfl) ?_
            refine o_at ha_46 ?_
            refine q_gi (ci := 4) (C := RX2) (T := TX2) (N := 8) (k := 3) hx hb hts iRX2 hown hK hp hk_47 (by decide) rfl rfl (by decide) rfl (Or.inr ⟨_, va_Nw.use rfl (hN.1 (.fieldLinkNest RX4 99 "RecordBench$Piece" "body" "I" "RecordBench") (by decide +kernel))⟩) (fun _ h9 => h9) dX4_copyPiece_91 ?_
            refine o_aload hx hb dX4_copyPiece_94 (lv_at hl 0 rfl) ?_
            refine o_at ha_46 ?_
            refine q_gi (ci := 4) (C := RX2) (T := TX2) (N := 8) (k := 4) hx hb hts iRX2 hown hK hp hk_47 (by decide) rfl rfl (by decide) rfl (Or.inr ⟨_, va_Nw.use rfl (hN.1 (.fieldLinkNest RX4 70 "RecordBench$Piece" "end" "I" "RecordBench") (by decide +kernel))⟩) (fun _ h9 => h9) dX4_copyPiece_96 ?_
            refine o_at3 ha_11 ?_
            obtain ⟨st_51, hc_52, hf⟩ := bnv_some hf
            refine q_cv hp hA (va_runV (As := [va_rf (Option.map ad p0), .int (qI st_48 a_45 3), .int (qI st_48 a_45 4)]) (rest := []) ⟨hx, hb, hml, hown, hts⟩ (c_X5_append l dC dI ka ad ct a_10 p0 (qI st_48 a_45 3) (qI st_48 a_45 4) _ _ hc_52 _) (cwV 3 hts gq_X4_copyPiece_X5_append_51 rfl rfl rfl (by decide +kernel) ⟨by show 1 + 1 ≤ fr + 3; omega, by show 8 + (5 + 11) + 25 ≤ lo + 80; omega⟩) ⟨PrC.blind _, q_rv7 hK hp hC hk_12, q_pre hp hK hN hZ hC hR hL hA⟩ rfl rfl hl.1 rfl (lv_room (Nat.le_of_ble_eq_true rfl)) dX4_copyPiece_99 ⟨Nat.le_of_ble_eq_true rfl, Nat.le_of_ble_eq_true rfl⟩) (fun H locs hp => ?_)
            have hk_2 : qk st_51 h0 = 7 := by rw [(mo_X5_append a_10 p0 (qI st_48 a_45 3) (qI st_48 a_45 4) _ _ hc_52).2.2.1]; exact hk_2
            have hk_5 : qk st_51 a_3 = 25 := by rw [(mo_X5_append a_10 p0 (qI st_48 a_45 3) (qI st_48 a_45 4) _ _ hc_52).2.2.1]; exact hk_5
            have hk_12 : qk st_51 a_10 = 8 := by rw [(mo_X5_append a_10 p0 (qI st_48 a_45 3) (qI st_48 a_45 4) _ _ hc_52).2.2.1]; exact hk_12
            have hk_18 : qk st_51 a_16 = 3 := by rw [(mo_X5_append a_10 p0 (qI st_48 a_45 3) (qI st_48 a_45 4) _ _ hc_52).2.2.1]; exact hk_18
            have hk_47 : qk st_51 a_45 = 5 := by rw [(mo_X5_append a_10 p0 (qI st_48 a_45 3) (qI st_48 a_45 4) _ _ hc_52).2.2.1]; exact hk_47
            refine lv_goto (tgt := 167) hx hb dX4_copyPiece_102 (by decide) ?_
            have e2 := Option.some.inj hf
            exact W.vret hx hb hr (fun t ht hW => ⟨⟨(), rfl, trivial, Cp.end e2 hp ht⟩, hp.2.1.F ht⟩) hp.2.1.2.2 dX4_copyPiece_167
        · have hf := pif_f c_22 hf
          refine o_aload hx hb dX4_copyPiece_55 (lv_at hl 5 rfl) ?_
          refine o_aload hx hb dX4_copyPiece_57 (lv_at hl 0 rfl) ?_
          obtain ⟨a_54, ha_55, hf⟩ := ono_some hf
          refine o_at ha_55 ?_
          obtain ⟨hk_56, hf⟩ := gd_some hf
          obtain ⟨r_59, st_57, hc_58, hf⟩ := bnd_some hf
          refine q_cl hp hA (va_runV (As := []) (rest := [va_rf (Option.map ad p3)]) ⟨hx, hb, hml, hown, hts⟩ (c_X2_asNumber l dC dI ka ad ct a_54 _ _ _ hc_58 _) (cwV 0 hts gq_X4_copyPiece_X2_asNumber_81 rfl rfl rfl (by decide +kernel) ⟨by show 0 + 1 ≤ fr + 3; omega, by show 8 + (1 + 11) + 0 ≤ lo + 80; omega⟩) ⟨PrC.blind _, q_rv4 hK hp hC hk_56, q_pre hp hK hN hZ hC hR hL hA⟩ rfl rfl hl.1 rfl (lv_room (by simp [rf_cat, vc_i, vc_l, vc_r, vc_n])) dX4_copyPiece_59 ⟨Nat.le_of_ble_eq_true rfl, Nat.le_of_ble_eq_true rfl⟩) (fun H locs hp => ?_)
          have hk_2 : qk st_57 h0 = 7 := by rw [(mo_X2_asNumber a_54 _ _ _ hc_58).2.2.1]; exact hk_2
          have hk_5 : qk st_57 a_3 = 25 := by rw [(mo_X2_asNumber a_54 _ _ _ hc_58).2.2.1]; exact hk_5
          have hk_12 : qk st_57 a_10 = 8 := by rw [(mo_X2_asNumber a_54 _ _ _ hc_58).2.2.1]; exact hk_12
          have hk_18 : qk st_57 a_16 = 3 := by rw [(mo_X2_asNumber a_54 _ _ _ hc_58).2.2.1]; exact hk_18
          have hk_56 : qk st_57 a_54 = 5 := by rw [(mo_X2_asNumber a_54 _ _ _ hc_58).2.2.1]; exact hk_56
          refine o_at1 ha_11 ?_
          obtain ⟨st_60, hc_61, hf⟩ := bnv_some hf
          refine q_cv hp hA (va_runV (As := [.long r_59]) (rest := []) ⟨hx, hb, hml, hown, hts⟩ (c_X5_pushNumber l dC dI ka ad ct a_10 r_59 _ _ hc_61 _) (cwV 1 hts gq_X4_copyPiece_X5_pushNumber_85 rfl rfl rfl (by decide +kernel) ⟨by show 2 + 1 ≤ fr + 3; omega, by show 8 + (3 + 11) + 54 ≤ lo + 80; omega⟩) ⟨PrC.blind _, q_rv7 hK hp hC hk_12, q_pre hp hK hN hZ hC hR hL hA⟩ rfl rfl hl.1 rfl (lv_room (Nat.le_of_ble_eq_true rfl)) dX4_copyPiece_62 ⟨Nat.le_of_ble_eq_true rfl, Nat.le_of_ble_eq_true rfl⟩) (fun H locs hp => ?_)
          have hk_2 : qk st_60 h0 = 7 := by rw [(mo_X5_pushNumber a_10 r_59 _ _ hc_61).2.2.1]; exact hk_2
          have hk_5 : qk st_60 a_3 = 25 := by rw [(mo_X5_pushNumber a_10 r_59 _ _ hc_61).2.2.1]; exact hk_5
          have hk_12 : qk st_60 a_10 = 8 := by rw [(mo_X5_pushNumber a_10 r_59 _ _ hc_61).2.2.1]; exact hk_12
          have hk_18 : qk st_60 a_16 = 3 := by rw [(mo_X5_pushNumber a_10 r_59 _ _ hc_61).2.2.1]; exact hk_18
          have hk_56 : qk st_60 a_54 = 5 := by rw [(mo_X5_pushNumber a_10 r_59 _ _ hc_61).2.2.1]; exact hk_56
          refine lv_goto (tgt := 167) hx hb dX4_copyPiece_65 (by decide) ?_
          have e2 := Option.some.inj hf
          exact W.vret hx hb hr (fun t ht hW => ⟨⟨(), rfl, trivial, Cp.end e2 hp ht⟩, hp.2.1.F ht⟩) hp.2.1.2.2 dX4_copyPiece_167
      · have hf := pif_t c_9 hf
        refine o_aload hx hb dX4_copyPiece_29 (lv_at hl 5 rfl) ?_
        refine o_aload_n hx hb dX4_copyPiece_31 rfl (lv_at hl 2 rfl) ?_
        refine lv_iload_n hx hb dX4_copyPiece_32 rfl (lv_at hl 3 rfl) ?_
        refine o_aload hx hb dX4_copyPiece_33 (lv_at hl 0 rfl) ?_
        obtain ⟨a_63, ha_64, hf⟩ := ono_some hf
        refine o_at ha_64 ?_
        obtain ⟨hk_65, hf⟩ := gd_some hf
        refine q_gi (ci := 4) (C := RX2) (T := TX2) (N := 8) (k := 4) hx hb hts iRX2 hown hK hp hk_65 (by decide) rfl rfl (by decide) rfl (Or.inr ⟨_, va_Nw.use rfl (hN.1 (.fieldLinkNest RX4 70 "RecordBench$Piece" "end" "I" "RecordBench") (by decide +kernel))⟩) (fun _ h9 => h9) dX4_copyPiece_35 ?_
        obtain ⟨a_66, ha_67, hf⟩ := ono_some hf
        refine o_at3 ha_67 ?_
        obtain ⟨hk_68, hf⟩ := gd_some hf
        obtain ⟨st_69, hc_70, hf⟩ := bnv_some hf
        refine q_cv hp hA (va_runV (As := [va_rf (Option.map ad p0), .int p1, .int (qI st a_63 4)]) (rest := []) ⟨hx, hb, hml, hown, hts⟩ (c_X5_append l dC dI ka ad ct a_66 p0 p1 (qI st a_63 4) _ _ hc_70 _) (cwV 3 hts gq_X4_copyPiece_X5_append_51 rfl rfl rfl (by decide +kernel) ⟨by show 1 + 1 ≤ fr + 3; omega, by show 8 + (5 + 11) + 25 ≤ lo + 80; omega⟩) ⟨PrC.blind _, q_rv7 hK hp hC hk_68, q_pre hp hK hN hZ hC hR hL hA⟩ rfl rfl hl.1 rfl (lv_room (Nat.le_of_ble_eq_true rfl)) dX4_copyPiece_38 ⟨Nat.le_of_ble_eq_true rfl, Nat.le_of_ble_eq_true rfl⟩) (fun H locs hp => ?_)
        have hk_2 : qk st_69 h0 = 7 := by rw [(mo_X5_append a_66 p0 p1 (qI st a_63 4) _ _ hc_70).2.2.1]; exact hk_2
        have hk_5 : qk st_69 a_3 = 25 := by rw [(mo_X5_append a_66 p0 p1 (qI st a_63 4) _ _ hc_70).2.2.1]; exact hk_5
        have hk_65 : qk st_69 a_63 = 5 := by rw [(mo_X5_append a_66 p0 p1 (qI st a_63 4) _ _ hc_70).2.2.1]; exact hk_65
        have hk_68 : qk st_69 a_66 = 8 := by rw [(mo_X5_append a_66 p0 p1 (qI st a_63 4) _ _ hc_70).2.2.1]; exact hk_68
        have e2 := Option.some.inj hf
        exact W.vret hx hb hr (fun t ht hW => ⟨⟨(), rfl, trivial, Cp.end e2 hp ht⟩, hp.2.1.F ht⟩) hp.2.1.2.2 dX4_copyPiece_41
    · have hf := pif_f c_6 hf
      have e2 := Option.some.inj hf
      exact W.vret hx hb hr (fun t ht hW => ⟨⟨(), rfl, trivial, Cp.end e2 hp ht⟩, hp.2.1.F ht⟩) hp.2.1.2.2 dX4_copyPiece_15
noncomputable def fX4_copyAll_36 (h0 : Nat) (F : Nat → (Option Nat) → Int32 → Int32 → (Option Nat) → (Option Nat) → Int32 → CS → Option (CS))  : Nat → Option Nat → Int32 → Option Nat → Option Nat → Int32 → Option Nat → Int32 → Int32 → CS → Option (CS)
  | 0 => fun _ _ _ _ _ _ _ _ _ => none
  | n + 1 => fun l1 l3 l4 l5 l6 l7 l8 l9 gs => pif (120 ≤ l9) (some gs) (pif (l3 ≤ l8) (some gs) (ono l7 (fun a_3 => gd (qk gs a_3 = 5) (bnv (fX2_look a_3 l1 l8 l3 gs) (fun st_6 => ono l4 (fun a_9 => gd (qk st_6 a_9 = 4) (bnd (fX1_knownAt a_9 (qI st_6 a_3 0) st_6) (fun r_14 st_12 => gd (qk st_12 h0 = 7) (bnv (fX4_copyPiece F h0 l1 l8 r_14 l5 l6 st_12) (fun st_16 => nam (qI st_16 a_3 4) (fun v_19 => nam (l9 + 1) (fun v_20 => (fX4_copyAll_36 h0 F n) l1 l3 l4 l5 l6 l7 v_19 v_20 st_16))))))))))))
theorem fX4_copyAll_36_z (h0 : Nat) (F : Nat → (Option Nat) → Int32 → Int32 → (Option Nat) → (Option Nat) → Int32 → CS → Option (CS))  (l1 : Option Nat) (l3 : Int32) (l4 : Option Nat) (l5 : Option Nat) (l6 : Int32) (l7 : Option Nat) (l8 : Int32) (l9 : Int32) (gs : CS) : fX4_copyAll_36 h0 F 0 l1 l3 l4 l5 l6 l7 l8 l9 gs = none := rfl
theorem fX4_copyAll_36_s (h0 : Nat) (F : Nat → (Option Nat) → Int32 → Int32 → (Option Nat) → (Option Nat) → Int32 → CS → Option (CS))  (n : Nat) (l1 : Option Nat) (l3 : Int32) (l4 : Option Nat) (l5 : Option Nat) (l6 : Int32) (l7 : Option Nat) (l8 : Int32) (l9 : Int32) (gs : CS) : fX4_copyAll_36 h0 F (n + 1) l1 l3 l4 l5 l6 l7 l8 l9 gs = pif (120 ≤ l9) (some gs) (pif (l3 ≤ l8) (some gs) (ono l7 (fun a_3 => gd (qk gs a_3 = 5) (bnv (fX2_look a_3 l1 l8 l3 gs) (fun st_6 => ono l4 (fun a_9 => gd (qk st_6 a_9 = 4) (bnd (fX1_knownAt a_9 (qI st_6 a_3 0) st_6) (fun r_14 st_12 => gd (qk st_12 h0 = 7) (bnv (fX4_copyPiece F h0 l1 l8 r_14 l5 l6 st_12) (fun st_16 => nam (qI st_16 a_3 4) (fun v_19 => nam (l9 + 1) (fun v_20 => (fX4_copyAll_36 h0 F n) l1 l3 l4 l5 l6 l7 v_19 v_20 st_16)))))))))))) := rfl
set_option maxHeartbeats 1000000 in
theorem mo_X4_copyAll_36 (h0 : Nat) (F : Nat → (Option Nat) → Int32 → Int32 → (Option Nat) → (Option Nat) → Int32 → CS → Option (CS))   (hFm : ∀ (h0 : Nat) (p0 : Option Nat) (p1 : Int32) (p2 : Int32) (p3 : Option Nat) (p4 : Option Nat) (p5 : Int32) (st : CS) (st' : CS), F h0 p0 p1 p2 p3 p4 p5 st = some st' → Ke st st') : ∀ (n : Nat) (l1 : Option Nat) (l3 : Int32) (l4 : Option Nat) (l5 : Option Nat) (l6 : Int32) (l7 : Option Nat) (l8 : Int32) (l9 : Int32) (gs : CS) (st' : CS), fX4_copyAll_36 h0 F n l1 l3 l4 l5 l6 l7 l8 l9 gs = some st' → Ke gs st' := by
  intro n
  induction n with
  | zero =>
    intro l1 l3 l4 l5 l6 l7 l8 l9 gs st' hf
    rw [fX4_copyAll_36_z] at hf
    cases hf
  | succ n ih =>
    intro l1 l3 l4 l5 l6 l7 l8 l9 gs st' hf
    rw [fX4_copyAll_36_s] at hf
    have hm : Ke gs gs := Ke.rf
    rcases pif_or hf with ⟨c_1, hf⟩ | ⟨c_1, hf⟩
    · have e2 := Option.some.inj hf
      exact e2 ▸ hm
    · rcases pif_or hf with ⟨c_2, hf⟩ | ⟨c_2, hf⟩
      · have e2 := Option.some.inj hf
        exact e2 ▸ hm
      · obtain ⟨a_3, ha_4, hf⟩ := ono_some hf
        obtain ⟨hk_5, hf⟩ := gd_some hf
        obtain ⟨st_6, hc_7, hf⟩ := bnv_some hf
        have hm := hm.tr (mo_X2_look a_3 l1 l8 l3 _ _ hc_7)
        obtain ⟨a_9, ha_10, hf⟩ := ono_some hf
        obtain ⟨hk_11, hf⟩ := gd_some hf
        obtain ⟨r_14, st_12, hc_13, hf⟩ := bnd_some hf
        have hm := hm.tr (mo_X1_knownAt a_9 (qI st_6 a_3 0) _ _ _ hc_13)
        obtain ⟨hk_15, hf⟩ := gd_some hf
        obtain ⟨st_16, hc_17, hf⟩ := bnv_some hf
        have hm := hm.tr (mo_X4_copyPiece F hFm h0 l1 l8 r_14 l5 l6 _ _ hc_17)
        obtain ⟨v_19, ev_19, hf⟩ := nam_some hf
        obtain ⟨v_20, ev_20, hf⟩ := nam_some hf
        exact hm.tr (ih l1 l3 l4 l5 l6 l7 v_19 v_20 st_16 _ hf)
noncomputable def fX4_copyAll (F : Nat → (Option Nat) → Int32 → Int32 → (Option Nat) → (Option Nat) → Int32 → CS → Option (CS)) (h0 : Nat) (p0 : Option Nat) (p1 : Int32) (p2 : Int32) (p3 : Option Nat) (p4 : Option Nat) (p5 : Int32) (st : CS) : Option (CS) := pif (p3 = none) (some st) (pif (p5 < 0) (some st) (gd (qk st h0 = 7) (ono (qP st h0 1) (fun a_24 => gd (qk st a_24 = 25) (pif (p5 < (nI (ql st a_24))) (gd (vp_in p5 (ql st a_24)) (nam (qP st a_24 p5.toNatClampNeg) (fun v_29 => fX4_copyAll_36 h0 F fuel p0 p2 p3 p4 p5 v_29 p1 0 st))) (some st))))))
set_option maxHeartbeats 1000000 in
theorem mo_X4_copyAll (F : Nat → (Option Nat) → Int32 → Int32 → (Option Nat) → (Option Nat) → Int32 → CS → Option (CS)) (hFm : ∀ (h0 : Nat) (p0 : Option Nat) (p1 : Int32) (p2 : Int32) (p3 : Option Nat) (p4 : Option Nat) (p5 : Int32) (st : CS) (st' : CS), F h0 p0 p1 p2 p3 p4 p5 st = some st' → Ke st st') (h0 : Nat) (p0 : Option Nat) (p1 : Int32) (p2 : Int32) (p3 : Option Nat) (p4 : Option Nat) (p5 : Int32) (st : CS) (st' : CS) (hf : fX4_copyAll F h0 p0 p1 p2 p3 p4 p5 st = some st') : Ke st st' := by
  unfold fX4_copyAll at hf
  have hm : Ke st st := Ke.rf
  rcases pif_or hf with ⟨c_21, hf⟩ | ⟨c_21, hf⟩
  · have e2 := Option.some.inj hf
    exact e2 ▸ hm
  · rcases pif_or hf with ⟨c_22, hf⟩ | ⟨c_22, hf⟩
    · have e2 := Option.some.inj hf
      exact e2 ▸ hm
    · obtain ⟨hk_23, hf⟩ := gd_some hf
      obtain ⟨a_24, ha_25, hf⟩ := ono_some hf
      obtain ⟨hk_26, hf⟩ := gd_some hf
      rcases pif_or hf with ⟨c_27, hf⟩ | ⟨c_27, hf⟩
      · obtain ⟨g_28, hf⟩ := gd_some hf
        obtain ⟨v_29, ev_29, hf⟩ := nam_some hf
        exact hm.tr (mo_X4_copyAll_36 h0 F hFm fuel p0 p2 p3 p4 p5 v_29 p1 0 st _ hf)
      · have e2 := Option.some.inj hf
        exact e2 ▸ hm
theorem gs_wq_X4_copyAll_wsX20 : GoodIn wq_X4_copyAll wsX20 := fun w h => ⟨List.mem_cons_of_mem _ (List.mem_append_left _ (List.mem_append_left _ (List.mem_append_left _ (List.mem_append_right _ h)))), (gt_wsX20 w h).2⟩
theorem gs_wq_X4_copyAll_wsX50 : GoodIn wq_X4_copyAll wsX50 := fun w h => ⟨List.mem_cons_of_mem _ (List.mem_append_left _ (List.mem_append_left _ (List.mem_append_right _ h))), (gt_wsX50 w h).2⟩
set_option maxRecDepth 20000 in
theorem gq_X4_copyAll_X2_look_43 : GoodIn wq_X4_copyAll (wsV RX4 43 RX2 yX2_look wq_X2_look) := goodIn_app (goodIn_r _ [2, 3, 4, 5] rfl rfl) (goodIn_ca (goodIn_ca (goodIn_r _ [14, 15, 16, 17, 18, 19, 20, 21, 22, 23, 24, 25, 5, 26, 27, 28, 29, 30, 31, 32, 33, 34, 35, 36, 37, 38, 39] rfl rfl) gs_wq_X4_copyAll_wsX20) gs_wq_X4_copyAll_wsX50)
theorem gs_wq_X4_copyAll_wsX00 : GoodIn wq_X4_copyAll wsX00 := fun w h => ⟨List.mem_cons_of_mem _ (List.mem_append_left _ (List.mem_append_right _ h)), (gt_wsX00 w h).2⟩
theorem gs_wq_X4_copyAll_wsX10 : GoodIn wq_X4_copyAll wsX10 := fun w h => ⟨List.mem_cons_of_mem _ (List.mem_append_right _ h), (gt_wsX10 w h).2⟩
set_option maxRecDepth 20000 in
theorem gq_X4_copyAll_X1_knownAt_54 : GoodIn wq_X4_copyAll (wsV RX4 54 RX1 yX1_knownAt wq_X1_knownAt) := goodIn_app (goodIn_r _ [6, 7, 8, 9] rfl rfl) (goodIn_ca (goodIn_ca (goodIn_r _ [40, 41, 42, 43, 9, 44, 45] rfl rfl) gs_wq_X4_copyAll_wsX00) gs_wq_X4_copyAll_wsX10)
theorem gs_wq_X4_copyAll_wsX40 : GoodIn wq_X4_copyAll wsX40 := fun w h => ⟨List.mem_cons_of_mem _ (List.mem_append_left _ (List.mem_append_left _ (List.mem_append_left _ (List.mem_append_left _ (List.mem_append_right _ h))))), (gt_wsX40 w h).2⟩
set_option maxRecDepth 20000 in
theorem gq_X4_copyAll_X4_copyPiece_66 : GoodIn wq_X4_copyAll (wsV RX4 66 RX4 yX4_copyPiece wq_X4_copyPiece) := goodIn_app (goodIn_r _ [10, 11, 12, 13] rfl rfl) (goodIn_ca (goodIn_ca (goodIn_ca (goodIn_ca (goodIn_ca (goodIn_r _ [46, 1, 47, 48, 49, 50, 36, 51, 52, 53, 54, 55, 56, 57, 58, 59, 60, 61, 62, 63, 64, 65, 13, 66, 67, 68, 69, 70, 71, 72, 73, 74, 75, 76, 77, 5, 78, 79, 80, 81, 82, 83, 84, 85, 86, 87, 88, 89, 90, 91, 38, 39, 92, 93, 94, 95, 96, 0, 2, 3, 4, 6, 7, 8, 9, 10, 11, 12, 14, 15, 16, 17, 18, 19, 20, 21, 22, 23, 24, 25, 26, 27, 28, 29, 30, 31, 32, 33, 34, 35, 37, 40, 41, 42, 43, 44, 45, 97, 98, 99, 100, 101] rfl rfl) gs_wq_X4_copyAll_wsX40) gs_wq_X4_copyAll_wsX00) gs_wq_X4_copyAll_wsX20) gs_wq_X4_copyAll_wsX50) gs_wq_X4_copyAll_wsX10)
set_option maxHeartbeats 4000000 in
set_option maxRecDepth 100000 in
theorem c_X4_copyAll (l : Launch) (dC : Nat → ClassId) (dI : Nat → Nat → Nat) (ka ad : Nat → Nat) (ct : Nat → ClassId) (F : Nat → (Option Nat) → Int32 → Int32 → (Option Nat) → (Option Nat) → Int32 → CS → Option (CS)) (hFm : ∀ (h0 : Nat) (p0 : Option Nat) (p1 : Int32) (p2 : Int32) (p3 : Option Nat) (p4 : Option Nat) (p5 : Int32) (st : CS) (st' : CS), F h0 p0 p1 p2 p3 p4 p5 st = some st' → Ke st st') (fr lo : Nat) (hF : ∀ (h0 : Nat) (p0 : Option Nat) (p1 : Int32) (p2 : Int32) (p3 : Option Nat) (p4 : Option Nat) (p5 : Int32) (st st' : CS) (hf : F h0 p0 p1 p2 p3 p4 p5 st = some st') (sz : Nat), Met l yX4_copyAll wq_X4_copyAll ({ frames := fr, cells := 0, slots := 0, locals := lo }) (va_Pc [.ref (ad h0), va_rf (Option.map ad p0), .int p1, .int p2, va_rf (Option.map ad p3), va_rf (Option.map ad p4), .int p5] (PrC (dC, dI) ct ka ad st sz)) (va_Qv (fun (_ : Unit) => True) (fun _ => CB (dC, dI) ct ka ad st' (aC ad st sz)) (aC ad st sz)) 0 0 (aC ad st sz)) (h0 : Nat) (p0 : Option Nat) (p1 : Int32) (p2 : Int32) (p3 : Option Nat) (p4 : Option Nat) (p5 : Int32) (st st' : CS) (hf : fX4_copyAll F h0 p0 p1 p2 p3 p4 p5 st = some st') (sz : Nat) : Met l yX4_copyAll wq_X4_copyAll ({ frames := fr + 4, cells := 0, slots := 0, locals := lo + 111 }) (va_Pc [.ref (ad h0), va_rf (Option.map ad p0), .int p1, .int p2, va_rf (Option.map ad p3), va_rf (Option.map ad p4), .int p5] (PrC (dC, dI) ct ka ad st sz)) (va_Qv (fun (_ : Unit) => True) (fun _ => CB (dC, dI) ct ka ad st' (aC ad st sz)) (aC ad st sz)) 0 0 (aC ad st sz) := by
  refine Met.ofW (cc := cX4_copyAll) (maxL := 10) (ret := none) (by decide) rfl ?_
  intro p e s m args below meth c s₁ B hml hv
  obtain ⟨rfl, hsz, hw0, hK, hN, hZ, hC, hR, hL, hw1, hw2⟩ := hv
  have hx := B.exec
  have hb := B.bytes
  have hr := B.returns
  have hts := atoms_spec (ws := wq_X4_copyAll) B.pre
  have hown : s.vm.findClass RX4 = some m.cls := findClass_of_methodNamed B.named
  have iRX4 : ∀ w ∈ u_ws RX4 TX4 3, w ∈ wq_X4_copyAll := fun w h => List.mem_cons_of_mem _ (List.mem_append_left _ (List.mem_append_left _ (List.mem_append_left _ (List.mem_append_left _ (List.mem_append_right _ h)))))
  have iRX2 : ∀ w ∈ u_ws RX2 TX2 8, w ∈ wq_X4_copyAll := fun w h => List.mem_cons_of_mem _ (List.mem_append_left _ (List.mem_append_left _ (List.mem_append_left _ (List.mem_append_right _ h))))
  subst hsz
  have hp : Cp (dC, dI) ka ad ct (aC ad st s.heap.size) s.heap st s.heap [] := ⟨fun i a b => ⟨hw0 i a b, Or.inl ⟨i, a, b, rfl⟩⟩, va_S.rf, hw1, hw2⟩
  generalize hAe : aC ad st s.heap.size = A at hp hZ hC ⊢
  have hA : ∀ q : Nat, s.heap.size ≤ q → A q := fun q h => by rw [← hAe]; exact Or.inr h
  have hl := lv_entry ([.ref (ad h0), va_rf (Option.map ad p0), .int p1, .int p2, va_rf (Option.map ad p3), va_rf (Option.map ad p4), .int p5]) (n := 10) (by simp [lg_sl, rf_cat, vc_i, vc_l, vc_r, vc_n])
  rw [lg_entry_eq]
  generalize (lg_sl ([.ref (ad h0), va_rf (Option.map ad p0), .int p1, .int p2, va_rf (Option.map ad p3), va_rf (Option.map ad p4), .int p5]) ++ List.replicate (10 - (lg_sl ([.ref (ad h0), va_rf (Option.map ad p0), .int p1, .int p2, va_rf (Option.map ad p3), va_rf (Option.map ad p4), .int p5])).length) Slot.unset).toArray = ls at hl ⊢
  have hl : lv_has ls 10 [(0, .ref (ad h0)), (1, va_rf (Option.map ad p0)), (2, .int p1), (3, .int p2), (4, va_rf (Option.map ad p3)), (5, va_rf (Option.map ad p4)), (6, .int p5)] := by simpa [lv_args, rf_cat, vc_i, vc_l, vc_r, vc_n] using hl
  refine W_lp (fun n36 (u : (Option Nat) × Int32 × (Option Nat) × (Option Nat) × Int32 × (Option Nat) × Int32 × Int32 × CS) H locs ls => match u with | (l1, l3, l4, l5, l6, l7, l8, l9, gs) => fX4_copyAll_36 h0 F n36 l1 l3 l4 l5 l6 l7 l8 l9 gs = some st' ∧ Cp (dC, dI) ka ad ct A s.heap gs H locs ∧ lv_has ls 10 [(0, .ref (ad h0)), (1, va_rf (Option.map ad l1)), (3, .int l3), (4, va_rf (Option.map ad l4)), (5, va_rf (Option.map ad l5)), (6, .int l6), (7, va_rf (Option.map ad l7)), (8, .int l8), (9, .int l9)]) (fun (u : (Option Nat) × Int32 × (Option Nat) × (Option Nat) × Int32 × (Option Nat) × Int32 × Int32 × CS) ls => match u with | (l1, l3, l4, l5, l6, l7, l8, l9, gs) => F0 m 36 ls []) ?_ ?_ (fun J36 => ?_)
  · intro u H locs ls hu
    obtain ⟨l1, l3, l4, l5, l6, l7, l8, l9, gs⟩ := u
    obtain ⟨hf, hp, hl⟩ := hu
    rw [fX4_copyAll_36_z] at hf
    cases hf
  · intro n36 ih36 u H locs ls hu
    obtain ⟨l1, l3, l4, l5, l6, l7, l8, l9, gs⟩ := u
    obtain ⟨hf, hp, hl⟩ := hu
    show W p l e _ s m _ below meth c _ _ _ _ _ (F0 m 36 ls [])
    rw [fX4_copyAll_36_s] at hf
    refine lv_iload hx hb dX4_copyAll_36 (lv_at hl 8 rfl) ?_
    refine lv_bipush (v := 120) hx hb dX4_copyAll_38 (by decide) ?_
    refine lv_icmp_ge (tgt := 92) hx hb dX4_copyAll_40 (by decide) (fun c_1 => ?_) (fun c_1 => ?_)
    · have hf := pif_t c_1 hf
      have e2 := Option.some.inj hf
      exact W.vret hx hb hr (fun t ht hW => ⟨⟨(), rfl, trivial, Cp.end e2 hp ht⟩, hp.2.1.F ht⟩) hp.2.1.2.2 dX4_copyAll_92
    · have hf := pif_f c_1 hf
      refine lv_iload hx hb dX4_copyAll_43 (lv_at hl 7 rfl) ?_
      refine lv_iload_n hx hb dX4_copyAll_45 rfl (lv_at hl 2 rfl) ?_
      refine lv_icmp_ge (tgt := 92) hx hb dX4_copyAll_46 (by decide) (fun c_2 => ?_) (fun c_2 => ?_)
      · have hf := pif_t c_2 hf
        have e2 := Option.some.inj hf
        exact W.vret hx hb hr (fun t ht hW => ⟨⟨(), rfl, trivial, Cp.end e2 hp ht⟩, hp.2.1.F ht⟩) hp.2.1.2.2 dX4_copyAll_92
      · have hf := pif_f c_2 hf
        refine o_aload hx hb dX4_copyAll_49 (lv_at hl 6 rfl) ?_
        refine o_aload_n hx hb dX4_copyAll_51 rfl (lv_at hl 1 rfl) ?_
        refine lv_iload hx hb dX4_copyAll_52 (lv_at hl 7 rfl) ?_
        refine lv_iload_n hx hb dX4_copyAll_54 rfl (lv_at hl 2 rfl) ?_
        obtain ⟨a_3, ha_4, hf⟩ := ono_some hf
        refine o_at3 ha_4 ?_
        obtain ⟨hk_5, hf⟩ := gd_some hf
        obtain ⟨st_6, hc_7, hf⟩ := bnv_some hf
        refine q_cv hp hA (va_runV (As := [va_rf (Option.map ad l1), .int l8, .int l3]) (rest := []) ⟨hx, hb, hml, hown, hts⟩ (c_X2_look l dC dI ka ad ct a_3 l1 l8 l3 _ _ hc_7 _) (cwV 3 hts gq_X4_copyAll_X2_look_43 rfl rfl rfl (by decide +kernel) ⟨by show 2 + 1 ≤ fr + 4; omega, by show 8 + (6 + 11) + 55 ≤ lo + 111; omega⟩) ⟨PrC.blind _, q_rv4 hK hp hC hk_5, q_pre hp hK hN hZ hC hR hL hA⟩ rfl rfl hl.1 rfl (lv_room (Nat.le_of_ble_eq_true rfl)) dX4_copyAll_55 ⟨Nat.le_of_ble_eq_true rfl, Nat.le_of_ble_eq_true rfl⟩) (fun H locs hp => ?_)
        have hk_5 : qk st_6 a_3 = 5 := by rw [(mo_X2_look a_3 l1 l8 l3 _ _ hc_7).2.2.1]; exact hk_5
        refine lv_aload_n hx hb dX4_copyAll_58 rfl (lv_at hl 0 rfl) ?_
        refine o_aload_n hx hb dX4_copyAll_59 rfl (lv_at hl 1 rfl) ?_
        refine lv_iload hx hb dX4_copyAll_60 (lv_at hl 7 rfl) ?_
        refine o_aload hx hb dX4_copyAll_62 (lv_at hl 3 rfl) ?_
        refine o_aload hx hb dX4_copyAll_64 (lv_at hl 6 rfl) ?_
        refine o_at ha_4 ?_
        refine q_gi (ci := 4) (C := RX2) (T := TX2) (N := 8) (k := 0) hx hb hts iRX2 hown hK hp hk_5 (by decide) rfl rfl (by decide) rfl (Or.inr ⟨_, va_Nw.use rfl (hN.1 (.fieldLinkNest RX4 47 "RecordBench$Piece" "number" "I" "RecordBench") (by decide +kernel))⟩) (fun _ h9 => h9) dX4_copyAll_66 ?_
        obtain ⟨a_9, ha_10, hf⟩ := ono_some hf
        refine o_at1 ha_10 ?_
        obtain ⟨hk_11, hf⟩ := gd_some hf
        obtain ⟨r_14, st_12, hc_13, hf⟩ := bnd_some hf
        refine q_cq hp hA (va_runV (As := [.int (qI st_6 a_3 0)]) (rest := [.int l8, va_rf (Option.map ad l1), .ref (ad h0)]) ⟨hx, hb, hml, hown, hts⟩ (c_X1_knownAt l dC dI ka ad ct a_9 (qI st_6 a_3 0) _ _ _ hc_13 _) (cwV 1 hts gq_X4_copyAll_X1_knownAt_54 rfl rfl rfl (by decide +kernel) ⟨by show 1 + 1 ≤ fr + 4; omega, by show 8 + (3 + 11) + 25 ≤ lo + 111; omega⟩) ⟨PrC.blind _, q_rv3 hK hp hC hk_11, q_pre hp hK hN hZ hC hR hL hA⟩ rfl rfl hl.1 rfl (lv_room (by simp [rf_cat, vc_i, vc_l, vc_r, vc_n])) dX4_copyAll_69 ⟨Nat.le_of_ble_eq_true rfl, Nat.le_of_ble_eq_true rfl⟩) (fun H locs hp => ?_)
        have hk_5 : qk st_12 a_3 = 5 := by rw [(mo_X1_knownAt a_9 (qI st_6 a_3 0) _ _ _ hc_13).2.2.1]; exact hk_5
        have hk_11 : qk st_12 a_9 = 4 := by rw [(mo_X1_knownAt a_9 (qI st_6 a_3 0) _ _ _ hc_13).2.2.1]; exact hk_11
        refine o_aload hx hb dX4_copyAll_72 (lv_at hl 4 rfl) ?_
        refine lv_iload hx hb dX4_copyAll_74 (lv_at hl 5 rfl) ?_
        obtain ⟨hk_15, hf⟩ := gd_some hf
        obtain ⟨st_16, hc_17, hf⟩ := bnv_some hf
        refine q_cv hp hA (va_runV (As := [va_rf (Option.map ad l1), .int l8, va_rf (Option.map ad r_14), va_rf (Option.map ad l5), .int l6]) (rest := []) ⟨hx, hb, hml, hown, hts⟩ (c_X4_copyPiece l dC dI ka ad ct F hFm fr lo hF h0 l1 l8 r_14 l5 l6 _ _ hc_17 _) (cwV 5 hts gq_X4_copyAll_X4_copyPiece_66 rfl rfl rfl (by decide +kernel) ⟨by show fr + 3 + 1 ≤ fr + 4; omega, by show 8 + (8 + 11) + (lo + 80) ≤ lo + 111; omega⟩) ⟨PrC.blind _, q_rv6 hK hp hC hk_15, q_pre hp hK hN hZ hC hR hL hA⟩ rfl rfl hl.1 rfl (lv_room (Nat.le_of_ble_eq_true rfl)) dX4_copyAll_76 ⟨Nat.le_of_ble_eq_true rfl, Nat.le_of_ble_eq_true rfl⟩) (fun H locs hp => ?_)
        have hk_5 : qk st_16 a_3 = 5 := by rw [(mo_X4_copyPiece F hFm h0 l1 l8 r_14 l5 l6 _ _ hc_17).2.2.1]; exact hk_5
        have hk_11 : qk st_16 a_9 = 4 := by rw [(mo_X4_copyPiece F hFm h0 l1 l8 r_14 l5 l6 _ _ hc_17).2.2.1]; exact hk_11
        have hk_15 : qk st_16 h0 = 7 := by rw [(mo_X4_copyPiece F hFm h0 l1 l8 r_14 l5 l6 _ _ hc_17).2.2.1]; exact hk_15
        refine o_aload hx hb dX4_copyAll_79 (lv_at hl 6 rfl) ?_
        refine o_at ha_4 ?_
        refine q_gi (ci := 4) (C := RX2) (T := TX2) (N := 8) (k := 4) hx hb hts iRX2 hown hK hp hk_5 (by decide) rfl rfl (by decide) rfl (Or.inr ⟨_, va_Nw.use rfl (hN.1 (.fieldLinkNest RX4 70 "RecordBench$Piece" "end" "I" "RecordBench") (by decide +kernel))⟩) (fun _ h9 => h9) dX4_copyAll_81 ?_
        obtain ⟨v_19, ev_19, hf⟩ := nam_some hf
        refine W_toi (y := v_19) ev_19.symm ?_
        refine lv_istore (i := 8) (lv' := [(8, .int v_19), (0, .ref (ad h0)), (1, va_rf (Option.map ad l1)), (3, .int l3), (4, va_rf (Option.map ad l4)), (5, va_rf (Option.map ad l5)), (6, .int l6), (7, va_rf (Option.map ad l7)), (9, .int l9)]) hx hb dX4_copyAll_84 hl (by decide) (by simp [rf_cat, vc_i, vc_l, vc_r, vc_n]) (fun ls hl => ?_)
        obtain ⟨v_20, ev_20, hf⟩ := nam_some hf
        refine lv_iinc (v := v_20) (lv' := [(9, .int v_20), (8, .int v_19), (0, .ref (ad h0)), (1, va_rf (Option.map ad l1)), (3, .int l3), (4, va_rf (Option.map ad l4)), (5, va_rf (Option.map ad l5)), (6, .int l6), (7, va_rf (Option.map ad l7))]) hx hb dX4_copyAll_86 hl (k := 8) rfl ev_20.symm (by decide) rfl (fun ls hl => ?_)
        refine lv_goto (tgt := 36) hx hb dX4_copyAll_89 (by decide) ?_
        exact ih36 (l1, l3, l4, l5, l6, l7, v_19, v_20, st_16) _ _ _ ⟨hf, hp, (lv_sub hl [2, 3, 4, 5, 6, 7, 8, 1, 0] rfl)⟩
  unfold fX4_copyAll at hf
  refine o_aload hx hb dX4_copyAll_0 (lv_at hl 4 rfl) ?_
  refine o_ifnull (tgt := 20) hx hb dX4_copyAll_2 (by decide) (fun c_21 => ?_) (fun c_21 => ?_)
  · have hf := pif_t c_21 hf
    have e2 := Option.some.inj hf
    exact W.vret hx hb hr (fun t ht hW => ⟨⟨(), rfl, trivial, Cp.end e2 hp ht⟩, hp.2.1.F ht⟩) hp.2.1.2.2 dX4_copyAll_20
  · have hf := pif_f c_21 hf
    refine lv_iload hx hb dX4_copyAll_5 (lv_at hl 6 rfl) ?_
    refine lv_if_lt (tgt := 20) hx hb dX4_copyAll_7 (by decide) (fun c_22 => ?_) (fun c_22 => ?_)
    · have hf := pif_t c_22 hf
      have e2 := Option.some.inj hf
      exact W.vret hx hb hr (fun t ht hW => ⟨⟨(), rfl, trivial, Cp.end e2 hp ht⟩, hp.2.1.F ht⟩) hp.2.1.2.2 dX4_copyAll_20
    · have hf := pif_f c_22 hf
      refine lv_iload hx hb dX4_copyAll_10 (lv_at hl 6 rfl) ?_
      refine lv_aload_n hx hb dX4_copyAll_12 rfl (lv_at hl 0 rfl) ?_
      obtain ⟨hk_23, hf⟩ := gd_some hf
      refine q_gp (ci := 6) (C := RX4) (T := TX4) (N := 3) (k := 1) hx hb hts iRX4 hown hK hp hk_23 (by decide) rfl rfl (by decide) rfl (Or.inl (hts (.fieldLink RX4 17 "RecordBench$RecordWriter" "pieces" "[LRecordBench$Piece;") (by decide +kernel))) (fun _ h9 => h9) dX4_copyAll_13 ?_
      obtain ⟨a_24, ha_25, hf⟩ := ono_some hf
      refine o_at ha_25 ?_
      obtain ⟨hk_26, hf⟩ := gd_some hf
      refine q_len (t0 := 4) hx hb hK hp (hp.2.2.1.ge hk_26 (by decide) (by decide) (by decide)) hk_26 (by decide) rfl dX4_copyAll_16 ?_
      refine lv_icmp_lt (tgt := 21) hx hb dX4_copyAll_17 (by decide) (fun c_27 => ?_) (fun c_27 => ?_)
      · have hf := pif_t c_27 hf
        refine lv_aload_n hx hb dX4_copyAll_21 rfl (lv_at hl 0 rfl) ?_
        refine q_gp (ci := 6) (C := RX4) (T := TX4) (N := 3) (k := 1) hx hb hts iRX4 hown hK hp hk_23 (by decide) rfl rfl (by decide) rfl (Or.inl (hts (.fieldLink RX4 17 "RecordBench$RecordWriter" "pieces" "[LRecordBench$Piece;") (by decide +kernel))) (fun _ h9 => h9) dX4_copyAll_22 ?_
        refine lv_iload hx hb dX4_copyAll_25 (lv_at hl 6 rfl) ?_
        refine o_at1 ha_25 ?_
        obtain ⟨g_28, hf⟩ := gd_some hf
        refine q_aq (t0 := 4) hx hb hK hp hk_26 (by decide) rfl g_28 dX4_copyAll_27 ?_
        obtain ⟨v_29, ev_29, hf⟩ := nam_some hf
        refine W_too (y := v_29) ev_29.symm ?_
        refine o_astore (i := 7) (lv' := [(7, va_rf (Option.map ad v_29)), (0, .ref (ad h0)), (1, va_rf (Option.map ad p0)), (2, .int p1), (3, .int p2), (4, va_rf (Option.map ad p3)), (5, va_rf (Option.map ad p4)), (6, .int p5)]) hx hb dX4_copyAll_28 hl (by decide) rfl (fun ls hl => ?_)
        refine lv_iload_n hx hb dX4_copyAll_30 rfl (lv_at hl 3 rfl) ?_
        refine lv_istore (i := 8) (lv' := [(8, .int p1), (7, va_rf (Option.map ad v_29)), (0, .ref (ad h0)), (1, va_rf (Option.map ad p0)), (2, .int p1), (3, .int p2), (4, va_rf (Option.map ad p3)), (5, va_rf (Option.map ad p4)), (6, .int p5)]) hx hb dX4_copyAll_31 hl (by decide) (by simp [rf_cat, vc_i, vc_l, vc_r, vc_n]) (fun ls hl => ?_)
        refine lv_iconst (v := 0) hx hb dX4_copyAll_33 (by decide) ?_
        refine lv_istore (i := 9) (lv' := [(9, .int 0), (8, .int p1), (7, va_rf (Option.map ad v_29)), (0, .ref (ad h0)), (1, va_rf (Option.map ad p0)), (2, .int p1), (3, .int p2), (4, va_rf (Option.map ad p3)), (5, va_rf (Option.map ad p4)), (6, .int p5)]) hx hb dX4_copyAll_34 hl (by decide) rfl (fun ls hl => ?_)
        exact J36 fuel (p0, p2, p3, p4, p5, v_29, p1, 0, st) _ _ _ ⟨hf, hp, (lv_sub hl [3, 4, 6, 7, 8, 9, 2, 1, 0] rfl)⟩
      · have hf := pif_f c_27 hf
        have e2 := Option.some.inj hf
        exact W.vret hx hb hr (fun t ht hW => ⟨⟨(), rfl, trivial, Cp.end e2 hp ht⟩, hp.2.1.F ht⟩) hp.2.1.2.2 dX4_copyAll_20
noncomputable def fX4_copyAllN : Nat → Nat → (Option Nat) → Int32 → Int32 → (Option Nat) → (Option Nat) → Int32 → CS → Option (CS)
  | 0 => fun _ _ _ _ _ _ _ _ => none
  | d + 1 => fun h0 p0 p1 p2 p3 p4 p5 st => fX4_copyAll (fX4_copyAllN d) h0 p0 p1 p2 p3 p4 p5 st
theorem fX4_copyAllN_z (h0 : Nat) (p0 : Option Nat) (p1 : Int32) (p2 : Int32) (p3 : Option Nat) (p4 : Option Nat) (p5 : Int32) (st : CS) : fX4_copyAllN 0 h0 p0 p1 p2 p3 p4 p5 st = none := rfl
theorem fX4_copyAllN_s (d : Nat) (h0 : Nat) (p0 : Option Nat) (p1 : Int32) (p2 : Int32) (p3 : Option Nat) (p4 : Option Nat) (p5 : Int32) (st : CS) : fX4_copyAllN (d + 1) h0 p0 p1 p2 p3 p4 p5 st = fX4_copyAll (fX4_copyAllN d) h0 p0 p1 p2 p3 p4 p5 st := rfl
theorem mo_X4_copyAllN : ∀ (d : Nat) (h0 : Nat) (p0 : Option Nat) (p1 : Int32) (p2 : Int32) (p3 : Option Nat) (p4 : Option Nat) (p5 : Int32) (st : CS) (st' : CS), fX4_copyAllN d h0 p0 p1 p2 p3 p4 p5 st = some st' → Ke st st' := by
  intro d
  induction d with
  | zero =>
    intro h0 p0 p1 p2 p3 p4 p5 st st' hf
    rw [fX4_copyAllN_z] at hf
    cases hf
  | succ d ih =>
    intro h0 p0 p1 p2 p3 p4 p5 st st' hf
    rw [fX4_copyAllN_s] at hf
    exact mo_X4_copyAll (fX4_copyAllN d) ih h0 p0 p1 p2 p3 p4 p5 st st' hf
theorem c_X4_copyAllN (l : Launch) (dC : Nat → ClassId) (dI : Nat → Nat → Nat) (ka ad : Nat → Nat) (ct : Nat → ClassId) : ∀ (d : Nat) (h0 : Nat) (p0 : Option Nat) (p1 : Int32) (p2 : Int32) (p3 : Option Nat) (p4 : Option Nat) (p5 : Int32) (st st' : CS) (hf : fX4_copyAllN d h0 p0 p1 p2 p3 p4 p5 st = some st') (sz : Nat), Met l yX4_copyAll wq_X4_copyAll ({ frames := 4 * d, cells := 0, slots := 0, locals := 111 * d }) (va_Pc [.ref (ad h0), va_rf (Option.map ad p0), .int p1, .int p2, va_rf (Option.map ad p3), va_rf (Option.map ad p4), .int p5] (PrC (dC, dI) ct ka ad st sz)) (va_Qv (fun (_ : Unit) => True) (fun _ => CB (dC, dI) ct ka ad st' (aC ad st sz)) (aC ad st sz)) 0 0 (aC ad st sz) := by
  intro d
  induction d with
  | zero =>
    intro h0 p0 p1 p2 p3 p4 p5 st st' hf sz
    rw [fX4_copyAllN_z] at hf
    cases hf
  | succ d ih =>
    intro h0 p0 p1 p2 p3 p4 p5 st st' hf sz
    rw [fX4_copyAllN_s] at hf
    exact c_X4_copyAll l dC dI ka ad ct (fX4_copyAllN d) (mo_X4_copyAllN d) (4 * d) (111 * d) ih h0 p0 p1 p2 p3 p4 p5 st st' hf sz
noncomputable def fX4_rewriteWith_159 (h0 : Nat)  (l5 : Option Nat) (l6 : Option Nat) (l8 : Int32) (gs : CS) : Option (CS) := pif (l8 = 0) (ono l5 (fun a_2 => gd (qk gs a_2 = 8) (bnd (fX5_size a_2 gs) (fun r_7 st_5 => ono l6 (fun a_8 => gd (qk st_5 a_8 = 8) (bnv (fX5_append a_8 l5 0 r_7 st_5) (fun st_11 => some st_11))))))) (some gs)
set_option maxHeartbeats 1000000 in
theorem mo_X4_rewriteWith_159 (h0 : Nat)   (l5 : Option Nat) (l6 : Option Nat) (l8 : Int32) (gs : CS) (st' : CS) (hf : fX4_rewriteWith_159 h0 l5 l6 l8 gs = some st') : Ke gs st' := by
  unfold fX4_rewriteWith_159 at hf
  have hm : Ke gs gs := Ke.rf
  rcases pif_or hf with ⟨c_1, hf⟩ | ⟨c_1, hf⟩
  · obtain ⟨a_2, ha_3, hf⟩ := ono_some hf
    obtain ⟨hk_4, hf⟩ := gd_some hf
    obtain ⟨r_7, st_5, hc_6, hf⟩ := bnd_some hf
    have hm := hm.tr (mo_X5_size a_2 _ _ _ hc_6)
    obtain ⟨a_8, ha_9, hf⟩ := ono_some hf
    obtain ⟨hk_10, hf⟩ := gd_some hf
    obtain ⟨st_11, hc_12, hf⟩ := bnv_some hf
    have hm := hm.tr (mo_X5_append a_8 l5 0 r_7 _ _ hc_12)
    have e2 := Option.some.inj hf
    exact e2 ▸ hm
  · have e2 := Option.some.inj hf
    exact e2 ▸ hm
noncomputable def fX4_rewriteWith_146 (h0 : Nat) (k24 : Option Nat → Option Nat → Int32 → Int32 → Option Nat → Option Nat → Option Nat → Int32 → Int32 → Int32 → CS → Option (CS)) (l1 : Option Nat) (l2 : Option Nat) (l3 : Int32) (l4 : Int32) (l5 : Option Nat) (l6 : Option Nat) (l7 : Option Nat) (l8 : Int32) (l10 : Int32) (gs : CS) : Option (CS) := ono l7 (fun a_14 => gd (qk gs a_14 = 5) (nam (qI gs a_14 4) (fun v_17 => nam (l10 + 1) (fun v_18 => k24 l1 l2 l3 l4 l5 l6 l7 l8 v_17 v_18 gs))))
set_option maxHeartbeats 1000000 in
theorem mo_X4_rewriteWith_146 (h0 : Nat) (k24 : Option Nat → Option Nat → Int32 → Int32 → Option Nat → Option Nat → Option Nat → Int32 → Int32 → Int32 → CS → Option (CS)) (hk24 : ∀ (l1 : Option Nat) (l2 : Option Nat) (l3 : Int32) (l4 : Int32) (l5 : Option Nat) (l6 : Option Nat) (l7 : Option Nat) (l8 : Int32) (l9 : Int32) (l10 : Int32) (gs : CS) (st' : CS), k24 l1 l2 l3 l4 l5 l6 l7 l8 l9 l10 gs = some st' → Ke gs st') (l1 : Option Nat) (l2 : Option Nat) (l3 : Int32) (l4 : Int32) (l5 : Option Nat) (l6 : Option Nat) (l7 : Option Nat) (l8 : Int32) (l10 : Int32) (gs : CS) (st' : CS) (hf : fX4_rewriteWith_146 h0 k24 l1 l2 l3 l4 l5 l6 l7 l8 l10 gs = some st') : Ke gs st' := by
  unfold fX4_rewriteWith_146 at hf
  have hm : Ke gs gs := Ke.rf
  obtain ⟨a_14, ha_15, hf⟩ := ono_some hf
  obtain ⟨hk_16, hf⟩ := gd_some hf
  obtain ⟨v_17, ev_17, hf⟩ := nam_some hf
  obtain ⟨v_18, ev_18, hf⟩ := nam_some hf
  exact hm.tr (hk24 l1 l2 l3 l4 l5 l6 l7 l8 v_17 v_18 gs _ hf)
noncomputable def fX4_rewriteWith_127 (h0 : Nat) (k24 : Option Nat → Option Nat → Int32 → Int32 → Option Nat → Option Nat → Option Nat → Int32 → Int32 → Int32 → CS → Option (CS)) (l1 : Option Nat) (l2 : Option Nat) (l3 : Int32) (l4 : Int32) (l5 : Option Nat) (l6 : Option Nat) (l7 : Option Nat) (l8 : Int32) (l9 : Int32) (l10 : Int32) (l11 : Option Nat) (s0 : Int32) (gs : CS) : Option (CS) := pif (s0 = 0) (gd (qk gs h0 = 7) (bnv (fX4_copyPiece (fX4_copyAllN 12) h0 l1 l9 l11 l6 0 gs) (fun st_21 => fX4_rewriteWith_146 h0 k24 l1 l2 l3 l4 l5 l6 l7 l8 l10 st_21))) (fX4_rewriteWith_146 h0 k24 l1 l2 l3 l4 l5 l6 l7 l8 l10 gs)
set_option maxHeartbeats 1000000 in
theorem mo_X4_rewriteWith_127 (h0 : Nat) (k24 : Option Nat → Option Nat → Int32 → Int32 → Option Nat → Option Nat → Option Nat → Int32 → Int32 → Int32 → CS → Option (CS)) (hk24 : ∀ (l1 : Option Nat) (l2 : Option Nat) (l3 : Int32) (l4 : Int32) (l5 : Option Nat) (l6 : Option Nat) (l7 : Option Nat) (l8 : Int32) (l9 : Int32) (l10 : Int32) (gs : CS) (st' : CS), k24 l1 l2 l3 l4 l5 l6 l7 l8 l9 l10 gs = some st' → Ke gs st') (l1 : Option Nat) (l2 : Option Nat) (l3 : Int32) (l4 : Int32) (l5 : Option Nat) (l6 : Option Nat) (l7 : Option Nat) (l8 : Int32) (l9 : Int32) (l10 : Int32) (l11 : Option Nat) (s0 : Int32) (gs : CS) (st' : CS) (hf : fX4_rewriteWith_127 h0 k24 l1 l2 l3 l4 l5 l6 l7 l8 l9 l10 l11 s0 gs = some st') : Ke gs st' := by
  unfold fX4_rewriteWith_127 at hf
  have hm : Ke gs gs := Ke.rf
  rcases pif_or hf with ⟨c_19, hf⟩ | ⟨c_19, hf⟩
  · obtain ⟨hk_20, hf⟩ := gd_some hf
    obtain ⟨st_21, hc_22, hf⟩ := bnv_some hf
    have hm := hm.tr (mo_X4_copyPiece (fX4_copyAllN 12) (mo_X4_copyAllN 12) h0 l1 l9 l11 l6 0 _ _ hc_22)
    exact hm.tr (mo_X4_rewriteWith_146 h0 k24 hk24 l1 l2 l3 l4 l5 l6 l7 l8 l10 st_21 _ hf)
  · exact hm.tr (mo_X4_rewriteWith_146 h0 k24 hk24 l1 l2 l3 l4 l5 l6 l7 l8 l10 gs _ hf)
noncomputable def fX4_rewriteWith_126 (h0 : Nat) (k24 : Option Nat → Option Nat → Int32 → Int32 → Option Nat → Option Nat → Option Nat → Int32 → Int32 → Int32 → CS → Option (CS)) (l1 : Option Nat) (l2 : Option Nat) (l3 : Int32) (l4 : Int32) (l5 : Option Nat) (l6 : Option Nat) (l7 : Option Nat) (l8 : Int32) (l9 : Int32) (l10 : Int32) (l11 : Option Nat) (gs : CS) : Option (CS) := fX4_rewriteWith_127 h0 k24 l1 l2 l3 l4 l5 l6 l7 l8 l9 l10 l11 0 gs
set_option maxHeartbeats 1000000 in
theorem mo_X4_rewriteWith_126 (h0 : Nat) (k24 : Option Nat → Option Nat → Int32 → Int32 → Option Nat → Option Nat → Option Nat → Int32 → Int32 → Int32 → CS → Option (CS)) (hk24 : ∀ (l1 : Option Nat) (l2 : Option Nat) (l3 : Int32) (l4 : Int32) (l5 : Option Nat) (l6 : Option Nat) (l7 : Option Nat) (l8 : Int32) (l9 : Int32) (l10 : Int32) (gs : CS) (st' : CS), k24 l1 l2 l3 l4 l5 l6 l7 l8 l9 l10 gs = some st' → Ke gs st') (l1 : Option Nat) (l2 : Option Nat) (l3 : Int32) (l4 : Int32) (l5 : Option Nat) (l6 : Option Nat) (l7 : Option Nat) (l8 : Int32) (l9 : Int32) (l10 : Int32) (l11 : Option Nat) (gs : CS) (st' : CS) (hf : fX4_rewriteWith_126 h0 k24 l1 l2 l3 l4 l5 l6 l7 l8 l9 l10 l11 gs = some st') : Ke gs st' := by
  unfold fX4_rewriteWith_126 at hf
  have hm : Ke gs gs := Ke.rf
  exact hm.tr (mo_X4_rewriteWith_127 h0 k24 hk24 l1 l2 l3 l4 l5 l6 l7 l8 l9 l10 l11 0 gs _ hf)
noncomputable def fX4_rewriteWith_122 (h0 : Nat) (k24 : Option Nat → Option Nat → Int32 → Int32 → Option Nat → Option Nat → Option Nat → Int32 → Int32 → Int32 → CS → Option (CS)) (l1 : Option Nat) (l2 : Option Nat) (l3 : Int32) (l4 : Int32) (l5 : Option Nat) (l6 : Option Nat) (l7 : Option Nat) (l8 : Int32) (l9 : Int32) (l10 : Int32) (l11 : Option Nat) (gs : CS) : Option (CS) := fX4_rewriteWith_127 h0 k24 l1 l2 l3 l4 l5 l6 l7 l8 l9 l10 l11 1 gs
set_option maxHeartbeats 1000000 in
theorem mo_X4_rewriteWith_122 (h0 : Nat) (k24 : Option Nat → Option Nat → Int32 → Int32 → Option Nat → Option Nat → Option Nat → Int32 → Int32 → Int32 → CS → Option (CS)) (hk24 : ∀ (l1 : Option Nat) (l2 : Option Nat) (l3 : Int32) (l4 : Int32) (l5 : Option Nat) (l6 : Option Nat) (l7 : Option Nat) (l8 : Int32) (l9 : Int32) (l10 : Int32) (gs : CS) (st' : CS), k24 l1 l2 l3 l4 l5 l6 l7 l8 l9 l10 gs = some st' → Ke gs st') (l1 : Option Nat) (l2 : Option Nat) (l3 : Int32) (l4 : Int32) (l5 : Option Nat) (l6 : Option Nat) (l7 : Option Nat) (l8 : Int32) (l9 : Int32) (l10 : Int32) (l11 : Option Nat) (gs : CS) (st' : CS) (hf : fX4_rewriteWith_122 h0 k24 l1 l2 l3 l4 l5 l6 l7 l8 l9 l10 l11 gs = some st') : Ke gs st' := by
  unfold fX4_rewriteWith_122 at hf
  have hm : Ke gs gs := Ke.rf
  exact hm.tr (mo_X4_rewriteWith_127 h0 k24 hk24 l1 l2 l3 l4 l5 l6 l7 l8 l9 l10 l11 1 gs _ hf)
noncomputable def fX4_rewriteWith_82 (h0 : Nat) (k24 : Option Nat → Option Nat → Int32 → Int32 → Option Nat → Option Nat → Option Nat → Int32 → Int32 → Int32 → CS → Option (CS)) (l1 : Option Nat) (l2 : Option Nat) (l3 : Int32) (l4 : Int32) (l5 : Option Nat) (l6 : Option Nat) (l7 : Option Nat) (l8 : Int32) (l9 : Int32) (l10 : Int32) (gs : CS) : Option (CS) := ono l7 (fun a_24 => gd (qk gs a_24 = 5) (ono l2 (fun a_27 => gd (qk gs a_27 = 4) (bnd (fX1_knownAt a_27 (qI gs a_24 0) gs) (fun r_32 st_30 => pif (r_32 = none) (fX4_rewriteWith_126 h0 k24 l1 l2 l3 l4 l5 l6 l7 l8 l9 l10 r_32 st_30) (ono r_32 (fun a_34 => gd (qk st_30 a_34 = 3) (pif ((qI st_30 a_34 0) = l3) (fX4_rewriteWith_122 h0 k24 l1 l2 l3 l4 l5 l6 l7 l8 l9 l10 r_32 st_30) (pif (l4 = 0) (fX4_rewriteWith_126 h0 k24 l1 l2 l3 l4 l5 l6 l7 l8 l9 l10 r_32 st_30) (pif ((qI st_30 a_34 2) = l4) (fX4_rewriteWith_122 h0 k24 l1 l2 l3 l4 l5 l6 l7 l8 l9 l10 r_32 st_30) (fX4_rewriteWith_126 h0 k24 l1 l2 l3 l4 l5 l6 l7 l8 l9 l10 r_32 st_30)))))))))))
set_option maxHeartbeats 1000000 in
theorem mo_X4_rewriteWith_82 (h0 : Nat) (k24 : Option Nat → Option Nat → Int32 → Int32 → Option Nat → Option Nat → Option Nat → Int32 → Int32 → Int32 → CS → Option (CS)) (hk24 : ∀ (l1 : Option Nat) (l2 : Option Nat) (l3 : Int32) (l4 : Int32) (l5 : Option Nat) (l6 : Option Nat) (l7 : Option Nat) (l8 : Int32) (l9 : Int32) (l10 : Int32) (gs : CS) (st' : CS), k24 l1 l2 l3 l4 l5 l6 l7 l8 l9 l10 gs = some st' → Ke gs st') (l1 : Option Nat) (l2 : Option Nat) (l3 : Int32) (l4 : Int32) (l5 : Option Nat) (l6 : Option Nat) (l7 : Option Nat) (l8 : Int32) (l9 : Int32) (l10 : Int32) (gs : CS) (st' : CS) (hf : fX4_rewriteWith_82 h0 k24 l1 l2 l3 l4 l5 l6 l7 l8 l9 l10 gs = some st') : Ke gs st' := by
  unfold fX4_rewriteWith_82 at hf
  have hm : Ke gs gs := Ke.rf
  obtain ⟨a_24, ha_25, hf⟩ := ono_some hf
  obtain ⟨hk_26, hf⟩ := gd_some hf
  obtain ⟨a_27, ha_28, hf⟩ := ono_some hf
  obtain ⟨hk_29, hf⟩ := gd_some hf
  obtain ⟨r_32, st_30, hc_31, hf⟩ := bnd_some hf
  have hm := hm.tr (mo_X1_knownAt a_27 (qI gs a_24 0) _ _ _ hc_31)
  rcases pif_or hf with ⟨c_33, hf⟩ | ⟨c_33, hf⟩
  · exact hm.tr (mo_X4_rewriteWith_126 h0 k24 hk24 l1 l2 l3 l4 l5 l6 l7 l8 l9 l10 r_32 st_30 _ hf)
  · obtain ⟨a_34, ha_35, hf⟩ := ono_some hf
    obtain ⟨hk_36, hf⟩ := gd_some hf
    rcases pif_or hf with ⟨c_37, hf⟩ | ⟨c_37, hf⟩
    · exact hm.tr (mo_X4_rewriteWith_122 h0 k24 hk24 l1 l2 l3 l4 l5 l6 l7 l8 l9 l10 r_32 st_30 _ hf)
    · rcases pif_or hf with ⟨c_38, hf⟩ | ⟨c_38, hf⟩
      · exact hm.tr (mo_X4_rewriteWith_126 h0 k24 hk24 l1 l2 l3 l4 l5 l6 l7 l8 l9 l10 r_32 st_30 _ hf)
      · rcases pif_or hf with ⟨c_39, hf⟩ | ⟨c_39, hf⟩
        · exact hm.tr (mo_X4_rewriteWith_122 h0 k24 hk24 l1 l2 l3 l4 l5 l6 l7 l8 l9 l10 r_32 st_30 _ hf)
        · exact hm.tr (mo_X4_rewriteWith_126 h0 k24 hk24 l1 l2 l3 l4 l5 l6 l7 l8 l9 l10 r_32 st_30 _ hf)
noncomputable def fX4_rewriteWith_24 (h0 : Nat)  : Nat → Option Nat → Option Nat → Int32 → Int32 → Option Nat → Option Nat → Option Nat → Int32 → Int32 → Int32 → CS → Option (CS)
  | 0 => fun _ _ _ _ _ _ _ _ _ _ _ => none
  | n + 1 => fun l1 l2 l3 l4 l5 l6 l7 l8 l9 l10 gs => pif (120 ≤ l10) (fX4_rewriteWith_159 h0 l5 l6 l8 gs) (ono l1 (fun a_41 => gd (qk gs a_41 = 8) (bnd (fX5_size a_41 gs) (fun r_46 st_44 => pif (r_46 ≤ l9) (fX4_rewriteWith_159 h0 l5 l6 l8 st_44) (bnd (fX5_size a_41 st_44) (fun r_50 st_48 => ono l7 (fun a_51 => gd (qk st_48 a_51 = 5) (bnv (fX2_look a_51 l1 l9 r_50 st_48) (fun st_54 => pif (l8 = 0) (pif ((qI st_54 a_51 0) < l3) (fX4_rewriteWith_82 h0 (fX4_rewriteWith_24 h0 n) l1 l2 l3 l4 l5 l6 l7 l8 l9 l10 st_54) (ono l5 (fun a_59 => gd (qk st_54 a_59 = 8) (bnd (fX5_size a_59 st_54) (fun r_64 st_62 => ono l6 (fun a_65 => gd (qk st_62 a_65 = 8) (bnv (fX5_append a_65 l5 0 r_64 st_62) (fun st_68 => fX4_rewriteWith_82 h0 (fX4_rewriteWith_24 h0 n) l1 l2 l3 l4 l5 l6 l7 1 l9 l10 st_68)))))))) (fX4_rewriteWith_82 h0 (fX4_rewriteWith_24 h0 n) l1 l2 l3 l4 l5 l6 l7 l8 l9 l10 st_54))))))))))
theorem fX4_rewriteWith_24_z (h0 : Nat)  (l1 : Option Nat) (l2 : Option Nat) (l3 : Int32) (l4 : Int32) (l5 : Option Nat) (l6 : Option Nat) (l7 : Option Nat) (l8 : Int32) (l9 : Int32) (l10 : Int32) (gs : CS) : fX4_rewriteWith_24 h0 0 l1 l2 l3 l4 l5 l6 l7 l8 l9 l10 gs = none := rfl
theorem fX4_rewriteWith_24_s (h0 : Nat)  (n : Nat) (l1 : Option Nat) (l2 : Option Nat) (l3 : Int32) (l4 : Int32) (l5 : Option Nat) (l6 : Option Nat) (l7 : Option Nat) (l8 : Int32) (l9 : Int32) (l10 : Int32) (gs : CS) : fX4_rewriteWith_24 h0 (n + 1) l1 l2 l3 l4 l5 l6 l7 l8 l9 l10 gs = pif (120 ≤ l10) (fX4_rewriteWith_159 h0 l5 l6 l8 gs) (ono l1 (fun a_41 => gd (qk gs a_41 = 8) (bnd (fX5_size a_41 gs) (fun r_46 st_44 => pif (r_46 ≤ l9) (fX4_rewriteWith_159 h0 l5 l6 l8 st_44) (bnd (fX5_size a_41 st_44) (fun r_50 st_48 => ono l7 (fun a_51 => gd (qk st_48 a_51 = 5) (bnv (fX2_look a_51 l1 l9 r_50 st_48) (fun st_54 => pif (l8 = 0) (pif ((qI st_54 a_51 0) < l3) (fX4_rewriteWith_82 h0 (fX4_rewriteWith_24 h0 n) l1 l2 l3 l4 l5 l6 l7 l8 l9 l10 st_54) (ono l5 (fun a_59 => gd (qk st_54 a_59 = 8) (bnd (fX5_size a_59 st_54) (fun r_64 st_62 => ono l6 (fun a_65 => gd (qk st_62 a_65 = 8) (bnv (fX5_append a_65 l5 0 r_64 st_62) (fun st_68 => fX4_rewriteWith_82 h0 (fX4_rewriteWith_24 h0 n) l1 l2 l3 l4 l5 l6 l7 1 l9 l10 st_68)))))))) (fX4_rewriteWith_82 h0 (fX4_rewriteWith_24 h0 n) l1 l2 l3 l4 l5 l6 l7 l8 l9 l10 st_54)))))))))) := rfl
set_option maxHeartbeats 1000000 in
theorem mo_X4_rewriteWith_24 (h0 : Nat)   : ∀ (n : Nat) (l1 : Option Nat) (l2 : Option Nat) (l3 : Int32) (l4 : Int32) (l5 : Option Nat) (l6 : Option Nat) (l7 : Option Nat) (l8 : Int32) (l9 : Int32) (l10 : Int32) (gs : CS) (st' : CS), fX4_rewriteWith_24 h0 n l1 l2 l3 l4 l5 l6 l7 l8 l9 l10 gs = some st' → Ke gs st' := by
  intro n
  induction n with
  | zero =>
    intro l1 l2 l3 l4 l5 l6 l7 l8 l9 l10 gs st' hf
    rw [fX4_rewriteWith_24_z] at hf
    cases hf
  | succ n ih =>
    intro l1 l2 l3 l4 l5 l6 l7 l8 l9 l10 gs st' hf
    rw [fX4_rewriteWith_24_s] at hf
    have hm : Ke gs gs := Ke.rf
    rcases pif_or hf with ⟨c_40, hf⟩ | ⟨c_40, hf⟩
    · exact hm.tr (mo_X4_rewriteWith_159 h0 l5 l6 l8 gs _ hf)
    · obtain ⟨a_41, ha_42, hf⟩ := ono_some hf
      obtain ⟨hk_43, hf⟩ := gd_some hf
      obtain ⟨r_46, st_44, hc_45, hf⟩ := bnd_some hf
      have hm := hm.tr (mo_X5_size a_41 _ _ _ hc_45)
      rcases pif_or hf with ⟨c_47, hf⟩ | ⟨c_47, hf⟩
      · exact hm.tr (mo_X4_rewriteWith_159 h0 l5 l6 l8 st_44 _ hf)
      · obtain ⟨r_50, st_48, hc_49, hf⟩ := bnd_some hf
        have hm := hm.tr (mo_X5_size a_41 _ _ _ hc_49)
        obtain ⟨a_51, ha_52, hf⟩ := ono_some hf
        obtain ⟨hk_53, hf⟩ := gd_some hf
        obtain ⟨st_54, hc_55, hf⟩ := bnv_some hf
        have hm := hm.tr (mo_X2_look a_51 l1 l9 r_50 _ _ hc_55)
        rcases pif_or hf with ⟨c_57, hf⟩ | ⟨c_57, hf⟩
        · rcases pif_or hf with ⟨c_58, hf⟩ | ⟨c_58, hf⟩
          · exact hm.tr (mo_X4_rewriteWith_82 h0 (fX4_rewriteWith_24 h0 n) ih l1 l2 l3 l4 l5 l6 l7 l8 l9 l10 st_54 _ hf)
          · obtain ⟨a_59, ha_60, hf⟩ := ono_some hf
            obtain ⟨hk_61, hf⟩ := gd_some hf
            obtain ⟨r_64, st_62, hc_63, hf⟩ := bnd_some hf
            have hm := hm.tr (mo_X5_size a_59 _ _ _ hc_63)
            obtain ⟨a_65, ha_66, hf⟩ := ono_some hf
            obtain ⟨hk_67, hf⟩ := gd_some hf
            obtain ⟨st_68, hc_69, hf⟩ := bnv_some hf
            have hm := hm.tr (mo_X5_append a_65 l5 0 r_64 _ _ hc_69)
            exact hm.tr (mo_X4_rewriteWith_82 h0 (fX4_rewriteWith_24 h0 n) ih l1 l2 l3 l4 l5 l6 l7 1 l9 l10 st_68 _ hf)
        · exact hm.tr (mo_X4_rewriteWith_82 h0 (fX4_rewriteWith_24 h0 n) ih l1 l2 l3 l4 l5 l6 l7 l8 l9 l10 st_54 _ hf)
noncomputable def fX4_rewriteWith (h0 : Nat) (p0 : Option Nat) (p1 : Option Nat) (p2 : Int32) (p3 : Int32) (p4 : Option Nat) (p5 : Option Nat) (st : CS) : Option (CS) := ono p5 (fun a_71 => gd (qk st a_71 = 8) (bnd (fX5_cut a_71 0 st) (fun r_76 st_74 => gd (qk st_74 h0 = 7) (ono (qP st_74 h0 1) (fun a_78 => gd (qk st_74 a_78 = 25) (gd (vp_in (0 : Int32) (ql st_74 a_78)) (nam (qP st_74 a_78 (0 : Int32).toNatClampNeg) (fun v_82 => fX4_rewriteWith_24 h0 fuel p0 p1 p2 p3 p4 p5 v_82 0 0 0 st_74))))))))
set_option maxHeartbeats 1000000 in
theorem mo_X4_rewriteWith (h0 : Nat) (p0 : Option Nat) (p1 : Option Nat) (p2 : Int32) (p3 : Int32) (p4 : Option Nat) (p5 : Option Nat) (st : CS) (st' : CS) (hf : fX4_rewriteWith h0 p0 p1 p2 p3 p4 p5 st = some st') : Ke st st' := by
  unfold fX4_rewriteWith at hf
  have hm : Ke st st := Ke.rf
  obtain ⟨a_71, ha_72, hf⟩ := ono_some hf
  obtain ⟨hk_73, hf⟩ := gd_some hf
  obtain ⟨r_76, st_74, hc_75, hf⟩ := bnd_some hf
  have hm := hm.tr (mo_X5_cut a_71 0 _ _ _ hc_75)
  obtain ⟨hk_77, hf⟩ := gd_some hf
  obtain ⟨a_78, ha_79, hf⟩ := ono_some hf
  obtain ⟨hk_80, hf⟩ := gd_some hf
  obtain ⟨g_81, hf⟩ := gd_some hf
  obtain ⟨v_82, ev_82, hf⟩ := nam_some hf
  exact hm.tr (mo_X4_rewriteWith_24 h0 fuel p0 p1 p2 p3 p4 p5 v_82 0 0 0 st_74 _ hf)
def wq_X4_rewriteWith : List Cond := .code yX4_rewriteWith cX4_rewriteWith 13 none :: (([.fieldLink RX4 17 "RecordBench$RecordWriter" "pieces" "[LRecordBench$Piece;", .methodLink RX4 39 yX5_size, .instanceMethod yX5_size, .selects RX5 yX5_size yX5_size, .initialized RX5, .methodLink RX4 51 yX5_append, .instanceMethod yX5_append, .selects RX5 yX5_append yX5_append, .methodLink RX4 66 yX4_copyPiece, .instanceMethod yX4_copyPiece, .selects RX4 yX4_copyPiece yX4_copyPiece, .initialized RX4, .methodLink RX4 54 yX1_knownAt, .instanceMethod yX1_knownAt, .selects RX1 yX1_knownAt yX1_knownAt, .initialized RX1, .methodLink RX4 43 yX2_look, .instanceMethod yX2_look, .selects RX2 yX2_look yX2_look, .initialized RX2, .methodLink RX4 35 yX5_cut, .instanceMethod yX5_cut, .selects RX5 yX5_cut yX5_cut, .code yX5_size cX5_size 1 (some .int), .fieldLink RX5 21 "RecordBench$Row" "size" "I", .code yX5_append cX5_append 5 none, .methodLink RX5 48 yX5_byteAt, .instanceMethod yX5_byteAt, .selects RX5 yX5_byteAt yX5_byteAt, .methodLink RX5 25 yX5_push, .instanceMethod yX5_push, .selects RX5 yX5_push yX5_push, .code yX5_byteAt cX5_byteAt 2 (some .int), .fieldLink RX5 15 "RecordBench$Row" "bytes" "[I", .code yX5_push cX5_push 2 none, .code yX4_copyPiece cX4_copyPiece 8 none, .fieldLink RX4 9 "RecordBench$RecordWriter" "makes" "[LRecordBench$Make;", .methodLink RX4 73 yX5_pushKey, .instanceMethod yX5_pushKey, .selects RX5 yX5_pushKey yX5_pushKey, .methodLink RX4 77 yX0_isNumber, .instanceMethod yX0_isNumber, .selects RX0 yX0_isNumber yX0_isNumber, .initialized RX0, .methodLink RX4 102 yX5_push, .static yX8_makeOf, .initialized RX8, .methodLink RX4 112 yX4_copyAll, .instanceMethod yX4_copyAll, .selects RX4 yX4_copyAll yX4_copyAll, .methodLink RX4 116 yX5_replace, .instanceMethod yX5_replace, .selects RX5 yX5_replace yX5_replace, .methodLink RX4 96 yX5_pushVarint, .instanceMethod yX5_pushVarint, .selects RX5 yX5_pushVarint yX5_pushVarint, .methodLink RX4 81 yX2_asNumber, .instanceMethod yX2_asNumber, .selects RX2 yX2_asNumber yX2_asNumber, .methodLink RX4 85 yX5_pushNumber, .instanceMethod yX5_pushNumber, .selects RX5 yX5_pushNumber yX5_pushNumber, .code yX5_pushKey cX5_pushKey 2 none, .constantLong RX5 37 (2), .methodLink RX5 33 yX5_pushVarint, .methodLink RX5 44 yX0_hasLength, .instanceMethod yX0_hasLength, .selects RX0 yX0_hasLength yX0_hasLength, .code yX5_pushVarint cX5_pushVarint 6 none, .constantLong RX5 29 (-128), .constantLong RX5 31 (127), .code yX0_hasLength cX0_hasLength 1 (some .boolean), .fieldLink RX0 15 "RecordBench$Field" "kind" "I", .code yX0_isNumber cX0_isNumber 1 (some .boolean), .code yX8_makeOf cX8_makeOf 2 (some (.object "RecordBench$Make")), .code yX4_copyAll cX4_copyAll 10 none, .code yX2_look cX2_look 6 none, .fieldLink RX2 9 "RecordBench$Piece" "number" "I", .fieldLink RX2 15 "RecordBench$Piece" "withLength" "Z", .fieldLink RX2 19 "RecordBench$Piece" "raw" "J", .fieldLink RX2 23 "RecordBench$Piece" "body" "I", .fieldLink RX2 26 "RecordBench$Piece" "end" "I", .fieldLink RX2 29 "RecordBench$Piece" "fault" "I", .fieldLink RX2 32 "RecordBench$Piece" "pos" "I", .fieldLink RX2 35 "RecordBench$Piece" "broken" "Z", .methodLink RX2 42 yX2_place, .instanceMethod yX2_place, .selects RX2 yX2_place yX2_place, .methodLink RX2 38 yX2_takeVarint, .instanceMethod yX2_takeVarint, .selects RX2 yX2_takeVarint yX2_takeVarint, .code yX2_place cX2_place 6 none, .constantLong RX2 46 (30), .code yX2_takeVarint cX2_takeVarint 7 (some .long), .constantLong RX2 54 (127), .methodLink RX2 48 yX5_byteAt, .code yX1_knownAt cX1_knownAt 3 (some (.object "RecordBench$Field")), .methodLink RX1 21 yX1_fieldAt, .instanceMethod yX1_fieldAt, .selects RX1 yX1_fieldAt yX1_fieldAt, .code yX1_fieldAt cX1_fieldAt 2 (some (.object "RecordBench$Field")), .fieldLink RX1 11 "RecordBench$Make" "fields" "[LRecordBench$Field;", .code yX5_replace cX5_replace 3 none, .code yX2_asNumber cX2_asNumber 1 (some .long), .code yX5_pushNumber cX5_pushNumber 3 none, .code yX5_cut cX5_cut 2 (some .boolean)] : List Cond) ++ wsX40 ++ wsX20 ++ wsX00 ++ wsX50 ++ wsX10)
theorem gs_wq_X4_rewriteWith_wsX50 : GoodIn wq_X4_rewriteWith wsX50 := fun w h => ⟨List.mem_cons_of_mem _ (List.mem_append_left _ (List.mem_append_right _ h)), (gt_wsX50 w h).2⟩
set_option maxRecDepth 20000 in
theorem gq_X4_rewriteWith_X5_size_39 : GoodIn wq_X4_rewriteWith (wsV RX4 39 RX5 yX5_size wq_X5_size) := goodIn_app (goodIn_r _ [2, 3, 4, 5] rfl rfl) (goodIn_ca (goodIn_r _ [24, 25] rfl rfl) gs_wq_X4_rewriteWith_wsX50)
set_option maxRecDepth 20000 in
theorem gq_X4_rewriteWith_X5_append_51 : GoodIn wq_X4_rewriteWith (wsV RX4 51 RX5 yX5_append wq_X5_append) := goodIn_app (goodIn_r _ [6, 7, 8, 5] rfl rfl) (goodIn_ca (goodIn_r _ [26, 27, 28, 29, 5, 30, 31, 32, 33, 25, 34, 35] rfl rfl) gs_wq_X4_rewriteWith_wsX50)
theorem gs_wq_X4_rewriteWith_wsX40 : GoodIn wq_X4_rewriteWith wsX40 := fun w h => ⟨List.mem_cons_of_mem _ (List.mem_append_left _ (List.mem_append_left _ (List.mem_append_left _ (List.mem_append_left _ (List.mem_append_right _ h))))), (gt_wsX40 w h).2⟩
theorem gs_wq_X4_rewriteWith_wsX00 : GoodIn wq_X4_rewriteWith wsX00 := fun w h => ⟨List.mem_cons_of_mem _ (List.mem_append_left _ (List.mem_append_left _ (List.mem_append_right _ h))), (gt_wsX00 w h).2⟩
theorem gs_wq_X4_rewriteWith_wsX20 : GoodIn wq_X4_rewriteWith wsX20 := fun w h => ⟨List.mem_cons_of_mem _ (List.mem_append_left _ (List.mem_append_left _ (List.mem_append_left _ (List.mem_append_right _ h)))), (gt_wsX20 w h).2⟩
theorem gs_wq_X4_rewriteWith_wsX10 : GoodIn wq_X4_rewriteWith wsX10 := fun w h => ⟨List.mem_cons_of_mem _ (List.mem_append_right _ h), (gt_wsX10 w h).2⟩
set_option maxRecDepth 20000 in
theorem gq_X4_rewriteWith_X4_copyPiece_66 : GoodIn wq_X4_rewriteWith (wsV RX4 66 RX4 yX4_copyPiece wq_X4_copyPiece) := goodIn_app (goodIn_r _ [9, 10, 11, 12] rfl rfl) (goodIn_ca (goodIn_ca (goodIn_ca (goodIn_ca (goodIn_ca (goodIn_r _ [36, 1, 37, 38, 39, 40, 5, 41, 42, 43, 44, 2, 3, 4, 45, 31, 32, 46, 47, 48, 49, 50, 12, 51, 52, 53, 54, 55, 56, 6, 7, 8, 57, 58, 59, 20, 60, 61, 62, 63, 64, 65, 66, 67, 68, 69, 70, 71, 30, 35, 25, 34, 72, 73, 74, 24, 75, 76, 17, 18, 19, 13, 14, 15, 16, 9, 10, 11, 77, 78, 79, 80, 81, 82, 83, 84, 85, 86, 87, 88, 89, 90, 91, 92, 93, 94, 95, 96, 28, 29, 33, 97, 98, 99, 100, 101, 102, 103, 26, 27, 104, 105] rfl rfl) gs_wq_X4_rewriteWith_wsX40) gs_wq_X4_rewriteWith_wsX00) gs_wq_X4_rewriteWith_wsX20) gs_wq_X4_rewriteWith_wsX50) gs_wq_X4_rewriteWith_wsX10)
set_option maxRecDepth 20000 in
theorem gq_X4_rewriteWith_X1_knownAt_54 : GoodIn wq_X4_rewriteWith (wsV RX4 54 RX1 yX1_knownAt wq_X1_knownAt) := goodIn_app (goodIn_r _ [13, 14, 15, 16] rfl rfl) (goodIn_ca (goodIn_ca (goodIn_r _ [97, 98, 99, 100, 16, 101, 102] rfl rfl) gs_wq_X4_rewriteWith_wsX00) gs_wq_X4_rewriteWith_wsX10)
set_option maxRecDepth 20000 in
theorem gq_X4_rewriteWith_X2_look_43 : GoodIn wq_X4_rewriteWith (wsV RX4 43 RX2 yX2_look wq_X2_look) := goodIn_app (goodIn_r _ [17, 18, 19, 20] rfl rfl) (goodIn_ca (goodIn_ca (goodIn_r _ [77, 78, 79, 80, 81, 82, 83, 84, 85, 86, 87, 88, 20, 89, 90, 91, 92, 93, 94, 95, 96, 28, 29, 5, 33, 25, 34] rfl rfl) gs_wq_X4_rewriteWith_wsX20) gs_wq_X4_rewriteWith_wsX50)
set_option maxRecDepth 20000 in
theorem gq_X4_rewriteWith_X5_cut_35 : GoodIn wq_X4_rewriteWith (wsV RX4 35 RX5 yX5_cut wq_X5_cut) := goodIn_app (goodIn_r _ [21, 22, 23, 5] rfl rfl) (goodIn_ca (goodIn_r _ [106, 25] rfl rfl) gs_wq_X4_rewriteWith_wsX50)
set_option maxHeartbeats 4000000 in
set_option maxRecDepth 100000 in
theorem c_X4_rewriteWith (l : Launch) (dC : Nat → ClassId) (dI : Nat → Nat → Nat) (ka ad : Nat → Nat) (ct : Nat → ClassId) (h0 : Nat) (p0 : Option Nat) (p1 : Option Nat) (p2 : Int32) (p3 : Int32) (p4 : Option Nat) (p5 : Option Nat) (st st' : CS) (hf : fX4_rewriteWith h0 p0 p1 p2 p3 p4 p5 st = some st') (sz : Nat) : Met l yX4_rewriteWith wq_X4_rewriteWith ({ frames := 52, cells := 0, slots := 0, locals := 1443 }) (va_Pc [.ref (ad h0), va_rf (Option.map ad p0), va_rf (Option.map ad p1), .int p2, .int p3, va_rf (Option.map ad p4), va_rf (Option.map ad p5)] (PrC (dC, dI) ct ka ad st sz)) (va_Qv (fun (_ : Unit) => True) (fun _ => CB (dC, dI) ct ka ad st' (aC ad st sz)) (aC ad st sz)) 0 0 (aC ad st sz) := by
  refine Met.ofW (cc := cX4_rewriteWith) (maxL := 13) (ret := none) (by decide) rfl ?_
  intro p e s m args below meth c s₁ B hml hv
  obtain ⟨rfl, hsz, hw0, hK, hN, hZ, hC, hR, hL, hw1, hw2⟩ := hv
  have hx := B.exec
  have hb := B.bytes
  have hr := B.returns
  have hts := atoms_spec (ws := wq_X4_rewriteWith) B.pre
  have hown : s.vm.findClass RX4 = some m.cls := findClass_of_methodNamed B.named
  have iRX4 : ∀ w ∈ u_ws RX4 TX4 3, w ∈ wq_X4_rewriteWith := fun w h => List.mem_cons_of_mem _ (List.mem_append_left _ (List.mem_append_left _ (List.mem_append_left _ (List.mem_append_left _ (List.mem_append_right _ h)))))
  have iRX2 : ∀ w ∈ u_ws RX2 TX2 8, w ∈ wq_X4_rewriteWith := fun w h => List.mem_cons_of_mem _ (List.mem_append_left _ (List.mem_append_left _ (List.mem_append_left _ (List.mem_append_right _ h))))
  have iRX0 : ∀ w ∈ u_ws RX0 TX0 7, w ∈ wq_X4_rewriteWith := fun w h => List.mem_cons_of_mem _ (List.mem_append_left _ (List.mem_append_left _ (List.mem_append_right _ h)))
  subst hsz
  have hp : Cp (dC, dI) ka ad ct (aC ad st s.heap.size) s.heap st s.heap [] := ⟨fun i a b => ⟨hw0 i a b, Or.inl ⟨i, a, b, rfl⟩⟩, va_S.rf, hw1, hw2⟩
  generalize hAe : aC ad st s.heap.size = A at hp hZ hC ⊢
  have hA : ∀ q : Nat, s.heap.size ≤ q → A q := fun q h => by rw [← hAe]; exact Or.inr h
  have hl := lv_entry ([.ref (ad h0), va_rf (Option.map ad p0), va_rf (Option.map ad p1), .int p2, .int p3, va_rf (Option.map ad p4), va_rf (Option.map ad p5)]) (n := 13) (by simp [lg_sl, rf_cat, vc_i, vc_l, vc_r, vc_n])
  rw [lg_entry_eq]
  generalize (lg_sl ([.ref (ad h0), va_rf (Option.map ad p0), va_rf (Option.map ad p1), .int p2, .int p3, va_rf (Option.map ad p4), va_rf (Option.map ad p5)]) ++ List.replicate (13 - (lg_sl ([.ref (ad h0), va_rf (Option.map ad p0), va_rf (Option.map ad p1), .int p2, .int p3, va_rf (Option.map ad p4), va_rf (Option.map ad p5)])).length) Slot.unset).toArray = ls at hl ⊢
  have hl : lv_has ls 13 [(0, .ref (ad h0)), (1, va_rf (Option.map ad p0)), (2, va_rf (Option.map ad p1)), (3, .int p2), (4, .int p3), (5, va_rf (Option.map ad p4)), (6, va_rf (Option.map ad p5))] := by simpa [lv_args, rf_cat, vc_i, vc_l, vc_r, vc_n] using hl
  refine W_blk (fun (u : (Option Nat) × (Option Nat) × Int32 × CS) H locs ls => match u with | (l5, l6, l8, gs) => fX4_rewriteWith_159 h0 l5 l6 l8 gs = some st' ∧ Cp (dC, dI) ka ad ct A s.heap gs H locs ∧ lv_has ls 13 [(5, va_rf (Option.map ad l5)), (6, va_rf (Option.map ad l6)), (8, .int l8)]) (fun (u : (Option Nat) × (Option Nat) × Int32 × CS) ls => match u with | (l5, l6, l8, gs) => F0 m 159 ls []) ?_ (fun J159 => ?_)
  · intro u H locs ls hu
    obtain ⟨l5, l6, l8, gs⟩ := u
    obtain ⟨hf, hp, hl⟩ := hu
    show W p l e _ s m _ below meth c _ _ _ _ _ (F0 m 159 ls [])
    unfold fX4_rewriteWith_159 at hf
    refine lv_iload hx hb dX4_rewriteWith_159 (lv_at hl 2 rfl) ?_
    refine lv_if_ne (tgt := 177) hx hb dX4_rewriteWith_161 (by decide) (fun c_1 => ?_) (fun c_1 => ?_)
    · have hf := pif_f c_1 hf
      have e2 := Option.some.inj hf
      exact W.vret hx hb hr (fun t ht hW => ⟨⟨(), rfl, trivial, Cp.end e2 hp ht⟩, hp.2.1.F ht⟩) hp.2.1.2.2 dX4_rewriteWith_177
    · have hf := pif_t c_1 hf
      refine o_aload hx hb dX4_rewriteWith_164 (lv_at hl 1 rfl) ?_
      refine o_aload hx hb dX4_rewriteWith_166 (lv_at hl 0 rfl) ?_
      refine lv_iconst (v := 0) hx hb dX4_rewriteWith_168 (by decide) ?_
      refine o_aload hx hb dX4_rewriteWith_169 (lv_at hl 0 rfl) ?_
      obtain ⟨a_2, ha_3, hf⟩ := ono_some hf
      refine o_at ha_3 ?_
      obtain ⟨hk_4, hf⟩ := gd_some hf
      obtain ⟨r_7, st_5, hc_6, hf⟩ := bnd_some hf
      refine q_ci hp hA (va_runV (As := []) (rest := [.int 0, va_rf (Option.map ad l5), va_rf (Option.map ad l6)]) ⟨hx, hb, hml, hown, hts⟩ (c_X5_size l dC dI ka ad ct a_2 _ _ _ hc_6 _) (cwV 0 hts gq_X4_rewriteWith_X5_size_39 rfl rfl rfl (by decide +kernel) ⟨Nat.le_of_ble_eq_true rfl, Nat.le_of_ble_eq_true rfl⟩) ⟨PrC.blind _, q_rv7 hK hp hC hk_4, q_pre hp hK hN hZ hC hR hL hA⟩ rfl rfl hl.1 rfl (lv_room (by simp [rf_cat, vc_i, vc_l, vc_r, vc_n])) dX4_rewriteWith_171 ⟨Nat.le_of_ble_eq_true rfl, Nat.le_of_ble_eq_true rfl⟩) (fun H locs hp => ?_)
      have hk_4 : qk st_5 a_2 = 8 := by rw [(mo_X5_size a_2 _ _ _ hc_6).2.2.1]; exact hk_4
      obtain ⟨a_8, ha_9, hf⟩ := ono_some hf
      refine o_at3 ha_9 ?_
      obtain ⟨hk_10, hf⟩ := gd_some hf
      obtain ⟨st_11, hc_12, hf⟩ := bnv_some hf
      refine q_cv hp hA (va_runV (As := [va_rf (Option.map ad l5), .int 0, .int r_7]) (rest := []) ⟨hx, hb, hml, hown, hts⟩ (c_X5_append l dC dI ka ad ct a_8 l5 0 r_7 _ _ hc_12 _) (cwV 3 hts gq_X4_rewriteWith_X5_append_51 rfl rfl rfl (by decide +kernel) ⟨Nat.le_of_ble_eq_true rfl, Nat.le_of_ble_eq_true rfl⟩) ⟨PrC.blind _, q_rv7 hK hp hC hk_10, q_pre hp hK hN hZ hC hR hL hA⟩ rfl rfl hl.1 rfl (lv_room (Nat.le_of_ble_eq_true rfl)) dX4_rewriteWith_174 ⟨Nat.le_of_ble_eq_true rfl, Nat.le_of_ble_eq_true rfl⟩) (fun H locs hp => ?_)
      have hk_4 : qk st_11 a_2 = 8 := by rw [(mo_X5_append a_8 l5 0 r_7 _ _ hc_12).2.2.1]; exact hk_4
      have hk_10 : qk st_11 a_8 = 8 := by rw [(mo_X5_append a_8 l5 0 r_7 _ _ hc_12).2.2.1]; exact hk_10
      have e2 := Option.some.inj hf
      exact W.vret hx hb hr (fun t ht hW => ⟨⟨(), rfl, trivial, Cp.end e2 hp ht⟩, hp.2.1.F ht⟩) hp.2.1.2.2 dX4_rewriteWith_177
  refine W_lp (fun n24 (u : (Option Nat) × (Option Nat) × Int32 × Int32 × (Option Nat) × (Option Nat) × (Option Nat) × Int32 × Int32 × Int32 × CS) H locs ls => match u with | (l1, l2, l3, l4, l5, l6, l7, l8, l9, l10, gs) => fX4_rewriteWith_24 h0 n24 l1 l2 l3 l4 l5 l6 l7 l8 l9 l10 gs = some st' ∧ Cp (dC, dI) ka ad ct A s.heap gs H locs ∧ lv_has ls 13 [(0, .ref (ad h0)), (1, va_rf (Option.map ad l1)), (2, va_rf (Option.map ad l2)), (3, .int l3), (4, .int l4), (5, va_rf (Option.map ad l5)), (6, va_rf (Option.map ad l6)), (7, va_rf (Option.map ad l7)), (8, .int l8), (9, .int l9), (10, .int l10)]) (fun (u : (Option Nat) × (Option Nat) × Int32 × Int32 × (Option Nat) × (Option Nat) × (Option Nat) × Int32 × Int32 × Int32 × CS) ls => match u with | (l1, l2, l3, l4, l5, l6, l7, l8, l9, l10, gs) => F0 m 24 ls []) ?_ ?_ (fun J24 => ?_)
  · intro u H locs ls hu
    obtain ⟨l1, l2, l3, l4, l5, l6, l7, l8, l9, l10, gs⟩ := u
    obtain ⟨hf, hp, hl⟩ := hu
    rw [fX4_rewriteWith_24_z] at hf
    cases hf
  · intro n24 ih24 u H locs ls hu
    obtain ⟨l1, l2, l3, l4, l5, l6, l7, l8, l9, l10, gs⟩ := u
    obtain ⟨hf, hp, hl⟩ := hu
    show W p l e _ s m _ below meth c _ _ _ _ _ (F0 m 24 ls [])
    refine W_blk (fun (u : (Option Nat) × (Option Nat) × Int32 × Int32 × (Option Nat) × (Option Nat) × (Option Nat) × Int32 × Int32 × CS) H locs ls => match u with | (l1, l2, l3, l4, l5, l6, l7, l8, l10, gs) => fX4_rewriteWith_146 h0 (fX4_rewriteWith_24 h0 n24) l1 l2 l3 l4 l5 l6 l7 l8 l10 gs = some st' ∧ Cp (dC, dI) ka ad ct A s.heap gs H locs ∧ lv_has ls 13 [(0, .ref (ad h0)), (1, va_rf (Option.map ad l1)), (2, va_rf (Option.map ad l2)), (3, .int l3), (4, .int l4), (5, va_rf (Option.map ad l5)), (6, va_rf (Option.map ad l6)), (7, va_rf (Option.map ad l7)), (8, .int l8), (10, .int l10)]) (fun (u : (Option Nat) × (Option Nat) × Int32 × Int32 × (Option Nat) × (Option Nat) × (Option Nat) × Int32 × Int32 × CS) ls => match u with | (l1, l2, l3, l4, l5, l6, l7, l8, l10, gs) => F0 m 146 ls []) ?_ (fun J146 => ?_)
    · intro u H locs ls hu
      obtain ⟨l1, l2, l3, l4, l5, l6, l7, l8, l10, gs⟩ := u
      obtain ⟨hf, hp, hl⟩ := hu
      show W p l e _ s m _ below meth c _ _ _ _ _ (F0 m 146 ls [])
      unfold fX4_rewriteWith_146 at hf
      refine o_aload hx hb dX4_rewriteWith_146 (lv_at hl 7 rfl) ?_
      obtain ⟨a_14, ha_15, hf⟩ := ono_some hf
      refine o_at ha_15 ?_
      obtain ⟨hk_16, hf⟩ := gd_some hf
      refine q_gi (ci := 4) (C := RX2) (T := TX2) (N := 8) (k := 4) hx hb hts iRX2 hown hK hp hk_16 (by decide) rfl rfl (by decide) rfl (Or.inr ⟨_, va_Nw.use rfl (hN.1 (.fieldLinkNest RX4 70 "RecordBench$Piece" "end" "I" "RecordBench") (by decide +kernel))⟩) (fun _ h9 => h9) dX4_rewriteWith_148 ?_
      obtain ⟨v_17, ev_17, hf⟩ := nam_some hf
      refine W_toi (y := v_17) ev_17.symm ?_
      refine lv_istore (i := 9) (lv' := [(9, .int v_17), (0, .ref (ad h0)), (1, va_rf (Option.map ad l1)), (2, va_rf (Option.map ad l2)), (3, .int l3), (4, .int l4), (5, va_rf (Option.map ad l5)), (6, va_rf (Option.map ad l6)), (7, va_rf (Option.map ad l7)), (8, .int l8), (10, .int l10)]) hx hb dX4_rewriteWith_151 hl (by decide) rfl (fun ls hl => ?_)
      obtain ⟨v_18, ev_18, hf⟩ := nam_some hf
      refine lv_iinc (v := v_18) (lv' := [(10, .int v_18), (9, .int v_17), (0, .ref (ad h0)), (1, va_rf (Option.map ad l1)), (2, va_rf (Option.map ad l2)), (3, .int l3), (4, .int l4), (5, va_rf (Option.map ad l5)), (6, va_rf (Option.map ad l6)), (7, va_rf (Option.map ad l7)), (8, .int l8)]) hx hb dX4_rewriteWith_153 hl (k := 10) rfl ev_18.symm (by decide) rfl (fun ls hl => ?_)
      refine lv_goto (tgt := 24) hx hb dX4_rewriteWith_156 (by decide) ?_
      exact ih24 (l1, l2, l3, l4, l5, l6, l7, l8, v_17, v_18, gs) _ _ _ ⟨hf, hp, (lv_sub hl [2, 3, 4, 5, 6, 7, 8, 9, 10, 1, 0] rfl)⟩
    refine W_blk (fun (u : (Option Nat) × (Option Nat) × Int32 × Int32 × (Option Nat) × (Option Nat) × (Option Nat) × Int32 × Int32 × Int32 × (Option Nat) × Int32 × CS) H locs ls => match u with | (l1, l2, l3, l4, l5, l6, l7, l8, l9, l10, l11, s0, gs) => fX4_rewriteWith_127 h0 (fX4_rewriteWith_24 h0 n24) l1 l2 l3 l4 l5 l6 l7 l8 l9 l10 l11 s0 gs = some st' ∧ Cp (dC, dI) ka ad ct A s.heap gs H locs ∧ lv_has ls 13 [(0, .ref (ad h0)), (1, va_rf (Option.map ad l1)), (2, va_rf (Option.map ad l2)), (3, .int l3), (4, .int l4), (5, va_rf (Option.map ad l5)), (6, va_rf (Option.map ad l6)), (7, va_rf (Option.map ad l7)), (8, .int l8), (9, .int l9), (10, .int l10), (11, va_rf (Option.map ad l11))]) (fun (u : (Option Nat) × (Option Nat) × Int32 × Int32 × (Option Nat) × (Option Nat) × (Option Nat) × Int32 × Int32 × Int32 × (Option Nat) × Int32 × CS) ls => match u with | (l1, l2, l3, l4, l5, l6, l7, l8, l9, l10, l11, s0, gs) => F0 m 127 ls [.int s0]) ?_ (fun J127 => ?_)
    · intro u H locs ls hu
      obtain ⟨l1, l2, l3, l4, l5, l6, l7, l8, l9, l10, l11, s0, gs⟩ := u
      obtain ⟨hf, hp, hl⟩ := hu
      show W p l e _ s m _ below meth c _ _ _ _ _ (F0 m 127 ls [.int s0])
      unfold fX4_rewriteWith_127 at hf
      refine lv_istore (i := 12) (lv' := [(12, .int s0), (0, .ref (ad h0)), (1, va_rf (Option.map ad l1)), (2, va_rf (Option.map ad l2)), (3, .int l3), (4, .int l4), (5, va_rf (Option.map ad l5)), (6, va_rf (Option.map ad l6)), (7, va_rf (Option.map ad l7)), (8, .int l8), (9, .int l9), (10, .int l10), (11, va_rf (Option.map ad l11))]) hx hb dX4_rewriteWith_127 hl (by decide) (by simp [rf_cat, vc_i, vc_l, vc_r, vc_n]) (fun ls hl => ?_)
      refine lv_iload hx hb dX4_rewriteWith_129 (lv_at hl 0 rfl) ?_
      refine lv_if_ne (tgt := 146) hx hb dX4_rewriteWith_131 (by decide) (fun c_19 => ?_) (fun c_19 => ?_)
      · have hf := pif_f c_19 hf
        exact J146 (l1, l2, l3, l4, l5, l6, l7, l8, l10, gs) _ _ _ ⟨hf, hp, (lv_sub hl [1, 2, 3, 4, 5, 6, 7, 8, 9, 11] rfl)⟩
      · have hf := pif_t c_19 hf
        refine lv_aload_n hx hb dX4_rewriteWith_134 rfl (lv_at hl 1 rfl) ?_
        refine o_aload_n hx hb dX4_rewriteWith_135 rfl (lv_at hl 2 rfl) ?_
        refine lv_iload hx hb dX4_rewriteWith_136 (lv_at hl 10 rfl) ?_
        refine o_aload hx hb dX4_rewriteWith_138 (lv_at hl 12 rfl) ?_
        refine o_aload hx hb dX4_rewriteWith_140 (lv_at hl 7 rfl) ?_
        refine lv_iconst (v := 0) hx hb dX4_rewriteWith_142 (by decide) ?_
        obtain ⟨hk_20, hf⟩ := gd_some hf
        obtain ⟨st_21, hc_22, hf⟩ := bnv_some hf
        refine q_cv hp hA (va_runV (As := [va_rf (Option.map ad l1), .int l9, va_rf (Option.map ad l11), va_rf (Option.map ad l6), .int 0]) (rest := []) ⟨hx, hb, hml, hown, hts⟩ (c_X4_copyPiece l dC dI ka ad ct (fX4_copyAllN 12) (mo_X4_copyAllN 12) (4 * 12) (111 * 12) (c_X4_copyAllN l dC dI ka ad ct 12) h0 l1 l9 l11 l6 0 _ _ hc_22 _) (cwV 5 hts gq_X4_rewriteWith_X4_copyPiece_66 rfl rfl rfl (by decide +kernel) ⟨Nat.le_of_ble_eq_true rfl, Nat.le_of_ble_eq_true rfl⟩) ⟨PrC.blind _, q_rv6 hK hp hC hk_20, q_pre hp hK hN hZ hC hR hL hA⟩ rfl rfl hl.1 rfl (lv_room (Nat.le_of_ble_eq_true rfl)) dX4_rewriteWith_143 ⟨Nat.le_of_ble_eq_true rfl, Nat.le_of_ble_eq_true rfl⟩) (fun H locs hp => ?_)
        have hk_20 : qk st_21 h0 = 7 := by rw [(mo_X4_copyPiece (fX4_copyAllN 12) (mo_X4_copyAllN 12) h0 l1 l9 l11 l6 0 _ _ hc_22).2.2.1]; exact hk_20
        exact J146 (l1, l2, l3, l4, l5, l6, l7, l8, l10, st_21) _ _ _ ⟨hf, hp, (lv_sub hl [1, 2, 3, 4, 5, 6, 7, 8, 9, 11] rfl)⟩
    refine W_blk (fun (u : (Option Nat) × (Option Nat) × Int32 × Int32 × (Option Nat) × (Option Nat) × (Option Nat) × Int32 × Int32 × Int32 × (Option Nat) × CS) H locs ls => match u with | (l1, l2, l3, l4, l5, l6, l7, l8, l9, l10, l11, gs) => fX4_rewriteWith_126 h0 (fX4_rewriteWith_24 h0 n24) l1 l2 l3 l4 l5 l6 l7 l8 l9 l10 l11 gs = some st' ∧ Cp (dC, dI) ka ad ct A s.heap gs H locs ∧ lv_has ls 13 [(0, .ref (ad h0)), (1, va_rf (Option.map ad l1)), (2, va_rf (Option.map ad l2)), (3, .int l3), (4, .int l4), (5, va_rf (Option.map ad l5)), (6, va_rf (Option.map ad l6)), (7, va_rf (Option.map ad l7)), (8, .int l8), (9, .int l9), (10, .int l10), (11, va_rf (Option.map ad l11))]) (fun (u : (Option Nat) × (Option Nat) × Int32 × Int32 × (Option Nat) × (Option Nat) × (Option Nat) × Int32 × Int32 × Int32 × (Option Nat) × CS) ls => match u with | (l1, l2, l3, l4, l5, l6, l7, l8, l9, l10, l11, gs) => F0 m 126 ls []) ?_ (fun J126 => ?_)
    · intro u H locs ls hu
      obtain ⟨l1, l2, l3, l4, l5, l6, l7, l8, l9, l10, l11, gs⟩ := u
      obtain ⟨hf, hp, hl⟩ := hu
      show W p l e _ s m _ below meth c _ _ _ _ _ (F0 m 126 ls [])
      unfold fX4_rewriteWith_126 at hf
      refine lv_iconst (v := 0) hx hb dX4_rewriteWith_126 (by decide) ?_
      exact J127 (l1, l2, l3, l4, l5, l6, l7, l8, l9, l10, l11, 0, gs) _ _ _ ⟨hf, hp, (lv_sub hl [0, 1, 2, 3, 4, 5, 6, 7, 8, 9, 10, 11] rfl)⟩
    refine W_blk (fun (u : (Option Nat) × (Option Nat) × Int32 × Int32 × (Option Nat) × (Option Nat) × (Option Nat) × Int32 × Int32 × Int32 × (Option Nat) × CS) H locs ls => match u with | (l1, l2, l3, l4, l5, l6, l7, l8, l9, l10, l11, gs) => fX4_rewriteWith_122 h0 (fX4_rewriteWith_24 h0 n24) l1 l2 l3 l4 l5 l6 l7 l8 l9 l10 l11 gs = some st' ∧ Cp (dC, dI) ka ad ct A s.heap gs H locs ∧ lv_has ls 13 [(0, .ref (ad h0)), (1, va_rf (Option.map ad l1)), (2, va_rf (Option.map ad l2)), (3, .int l3), (4, .int l4), (5, va_rf (Option.map ad l5)), (6, va_rf (Option.map ad l6)), (7, va_rf (Option.map ad l7)), (8, .int l8), (9, .int l9), (10, .int l10), (11, va_rf (Option.map ad l11))]) (fun (u : (Option Nat) × (Option Nat) × Int32 × Int32 × (Option Nat) × (Option Nat) × (Option Nat) × Int32 × Int32 × Int32 × (Option Nat) × CS) ls => match u with | (l1, l2, l3, l4, l5, l6, l7, l8, l9, l10, l11, gs) => F0 m 122 ls []) ?_ (fun J122 => ?_)
    · intro u H locs ls hu
      obtain ⟨l1, l2, l3, l4, l5, l6, l7, l8, l9, l10, l11, gs⟩ := u
      obtain ⟨hf, hp, hl⟩ := hu
      show W p l e _ s m _ below meth c _ _ _ _ _ (F0 m 122 ls [])
      unfold fX4_rewriteWith_122 at hf
      refine lv_iconst (v := 1) hx hb dX4_rewriteWith_122 (by decide) ?_
      refine lv_goto (tgt := 127) hx hb dX4_rewriteWith_123 (by decide) ?_
      exact J127 (l1, l2, l3, l4, l5, l6, l7, l8, l9, l10, l11, 1, gs) _ _ _ ⟨hf, hp, (lv_sub hl [0, 1, 2, 3, 4, 5, 6, 7, 8, 9, 10, 11] rfl)⟩
    refine W_blk (fun (u : (Option Nat) × (Option Nat) × Int32 × Int32 × (Option Nat) × (Option Nat) × (Option Nat) × Int32 × Int32 × Int32 × CS) H locs ls => match u with | (l1, l2, l3, l4, l5, l6, l7, l8, l9, l10, gs) => fX4_rewriteWith_82 h0 (fX4_rewriteWith_24 h0 n24) l1 l2 l3 l4 l5 l6 l7 l8 l9 l10 gs = some st' ∧ Cp (dC, dI) ka ad ct A s.heap gs H locs ∧ lv_has ls 13 [(0, .ref (ad h0)), (1, va_rf (Option.map ad l1)), (2, va_rf (Option.map ad l2)), (3, .int l3), (4, .int l4), (5, va_rf (Option.map ad l5)), (6, va_rf (Option.map ad l6)), (7, va_rf (Option.map ad l7)), (8, .int l8), (9, .int l9), (10, .int l10)]) (fun (u : (Option Nat) × (Option Nat) × Int32 × Int32 × (Option Nat) × (Option Nat) × (Option Nat) × Int32 × Int32 × Int32 × CS) ls => match u with | (l1, l2, l3, l4, l5, l6, l7, l8, l9, l10, gs) => F0 m 82 ls []) ?_ (fun J82 => ?_)
    · intro u H locs ls hu
      obtain ⟨l1, l2, l3, l4, l5, l6, l7, l8, l9, l10, gs⟩ := u
      obtain ⟨hf, hp, hl⟩ := hu
      show W p l e _ s m _ below meth c _ _ _ _ _ (F0 m 82 ls [])
      unfold fX4_rewriteWith_82 at hf
      refine o_aload_n hx hb dX4_rewriteWith_82 rfl (lv_at hl 2 rfl) ?_
      refine o_aload hx hb dX4_rewriteWith_83 (lv_at hl 7 rfl) ?_
      obtain ⟨a_24, ha_25, hf⟩ := ono_some hf
      refine o_at ha_25 ?_
      obtain ⟨hk_26, hf⟩ := gd_some hf
      refine q_gi (ci := 4) (C := RX2) (T := TX2) (N := 8) (k := 0) hx hb hts iRX2 hown hK hp hk_26 (by decide) rfl rfl (by decide) rfl (Or.inr ⟨_, va_Nw.use rfl (hN.1 (.fieldLinkNest RX4 47 "RecordBench$Piece" "number" "I" "RecordBench") (by decide +kernel))⟩) (fun _ h9 => h9) dX4_rewriteWith_85 ?_
      obtain ⟨a_27, ha_28, hf⟩ := ono_some hf
      refine o_at1 ha_28 ?_
      obtain ⟨hk_29, hf⟩ := gd_some hf
      obtain ⟨r_32, st_30, hc_31, hf⟩ := bnd_some hf
      refine q_cq hp hA (va_runV (As := [.int (qI gs a_24 0)]) (rest := []) ⟨hx, hb, hml, hown, hts⟩ (c_X1_knownAt l dC dI ka ad ct a_27 (qI gs a_24 0) _ _ _ hc_31 _) (cwV 1 hts gq_X4_rewriteWith_X1_knownAt_54 rfl rfl rfl (by decide +kernel) ⟨Nat.le_of_ble_eq_true rfl, Nat.le_of_ble_eq_true rfl⟩) ⟨PrC.blind _, q_rv3 hK hp hC hk_29, q_pre hp hK hN hZ hC hR hL hA⟩ rfl rfl hl.1 rfl (lv_room (Nat.le_of_ble_eq_true rfl)) dX4_rewriteWith_88 ⟨Nat.le_of_ble_eq_true rfl, Nat.le_of_ble_eq_true rfl⟩) (fun H locs hp => ?_)
      have hk_26 : qk st_30 a_24 = 5 := by rw [(mo_X1_knownAt a_27 (qI gs a_24 0) _ _ _ hc_31).2.2.1]; exact hk_26
      have hk_29 : qk st_30 a_27 = 4 := by rw [(mo_X1_knownAt a_27 (qI gs a_24 0) _ _ _ hc_31).2.2.1]; exact hk_29
      refine o_astore (i := 11) (lv' := [(11, va_rf (Option.map ad r_32)), (0, .ref (ad h0)), (1, va_rf (Option.map ad l1)), (2, va_rf (Option.map ad l2)), (3, .int l3), (4, .int l4), (5, va_rf (Option.map ad l5)), (6, va_rf (Option.map ad l6)), (7, va_rf (Option.map ad l7)), (8, .int l8), (9, .int l9), (10, .int l10)]) hx hb dX4_rewriteWith_91 hl (by decide) rfl (fun ls hl => ?_)
      refine o_aload hx hb dX4_rewriteWith_93 (lv_at hl 0 rfl) ?_
      refine o_ifnull (tgt := 126) hx hb dX4_rewriteWith_95 (by decide) (fun c_33 => ?_) (fun c_33 => ?_)
      · have hf := pif_t c_33 hf
        exact J126 (l1, l2, l3, l4, l5, l6, l7, l8, l9, l10, r_32, st_30) _ _ _ ⟨hf, hp, (lv_sub hl [1, 2, 3, 4, 5, 6, 7, 8, 9, 10, 11, 0] rfl)⟩
      · have hf := pif_f c_33 hf
        refine o_aload hx hb dX4_rewriteWith_98 (lv_at hl 0 rfl) ?_
        obtain ⟨a_34, ha_35, hf⟩ := ono_some hf
        refine o_at ha_35 ?_
        obtain ⟨hk_36, hf⟩ := gd_some hf
        refine q_gi (ci := 2) (C := RX0) (T := TX0) (N := 7) (k := 0) hx hb hts iRX0 hown hK hp hk_36 (by decide) rfl rfl (by decide) rfl (Or.inr ⟨_, va_Nw.use rfl (hN.1 (.fieldLinkNest RX4 60 "RecordBench$Field" "number" "I" "RecordBench") (by decide +kernel))⟩) (fun _ h9 => h9) dX4_rewriteWith_100 ?_
        refine lv_iload_n hx hb dX4_rewriteWith_103 rfl (lv_at hl 4 rfl) ?_
        refine lv_icmp_eq (tgt := 122) hx hb dX4_rewriteWith_104 (by decide) (fun c_37 => ?_) (fun c_37 => ?_)
        · have hf := pif_t c_37 hf
          exact J122 (l1, l2, l3, l4, l5, l6, l7, l8, l9, l10, r_32, st_30) _ _ _ ⟨hf, hp, (lv_sub hl [1, 2, 3, 4, 5, 6, 7, 8, 9, 10, 11, 0] rfl)⟩
        · have hf := pif_f c_37 hf
          refine lv_iload hx hb dX4_rewriteWith_107 (lv_at hl 5 rfl) ?_
          refine lv_if_eq (tgt := 126) hx hb dX4_rewriteWith_109 (by decide) (fun c_38 => ?_) (fun c_38 => ?_)
          · have hf := pif_t c_38 hf
            exact J126 (l1, l2, l3, l4, l5, l6, l7, l8, l9, l10, r_32, st_30) _ _ _ ⟨hf, hp, (lv_sub hl [1, 2, 3, 4, 5, 6, 7, 8, 9, 10, 11, 0] rfl)⟩
          · have hf := pif_f c_38 hf
            refine o_aload hx hb dX4_rewriteWith_112 (lv_at hl 0 rfl) ?_
            refine o_at ha_35 ?_
            refine q_gi (ci := 2) (C := RX0) (T := TX0) (N := 7) (k := 2) hx hb hts iRX0 hown hK hp hk_36 (by decide) rfl rfl (by decide) rfl (Or.inr ⟨_, va_Nw.use rfl (hN.1 (.fieldLinkNest RX4 63 "RecordBench$Field" "group" "I" "RecordBench") (by decide +kernel))⟩) (fun _ h9 => h9) dX4_rewriteWith_114 ?_
            refine lv_iload hx hb dX4_rewriteWith_117 (lv_at hl 5 rfl) ?_
            refine lv_icmp_ne (tgt := 126) hx hb dX4_rewriteWith_119 (by decide) (fun c_39 => ?_) (fun c_39 => ?_)
            · have hf := pif_f c_39 hf
              exact J126 (l1, l2, l3, l4, l5, l6, l7, l8, l9, l10, r_32, st_30) _ _ _ ⟨hf, hp, (lv_sub hl [1, 2, 3, 4, 5, 6, 7, 8, 9, 10, 11, 0] rfl)⟩
            · have hf := pif_t c_39 hf
              exact J122 (l1, l2, l3, l4, l5, l6, l7, l8, l9, l10, r_32, st_30) _ _ _ ⟨hf, hp, (lv_sub hl [1, 2, 3, 4, 5, 6, 7, 8, 9, 10, 11, 0] rfl)⟩
    rw [fX4_rewriteWith_24_s] at hf
    refine lv_iload hx hb dX4_rewriteWith_24 (lv_at hl 10 rfl) ?_
    refine lv_bipush (v := 120) hx hb dX4_rewriteWith_26 (by decide) ?_
    refine lv_icmp_ge (tgt := 159) hx hb dX4_rewriteWith_28 (by decide) (fun c_40 => ?_) (fun c_40 => ?_)
    · have hf := pif_t c_40 hf
      exact J159 (l5, l6, l8, gs) _ _ _ ⟨hf, hp, (lv_sub hl [5, 6, 8] rfl)⟩
    · have hf := pif_f c_40 hf
      refine lv_iload hx hb dX4_rewriteWith_31 (lv_at hl 9 rfl) ?_
      refine o_aload_n hx hb dX4_rewriteWith_33 rfl (lv_at hl 1 rfl) ?_
      obtain ⟨a_41, ha_42, hf⟩ := ono_some hf
      refine o_at ha_42 ?_
      obtain ⟨hk_43, hf⟩ := gd_some hf
      obtain ⟨r_46, st_44, hc_45, hf⟩ := bnd_some hf
      refine q_ci hp hA (va_runV (As := []) (rest := [.int l9]) ⟨hx, hb, hml, hown, hts⟩ (c_X5_size l dC dI ka ad ct a_41 _ _ _ hc_45 _) (cwV 0 hts gq_X4_rewriteWith_X5_size_39 rfl rfl rfl (by decide +kernel) ⟨Nat.le_of_ble_eq_true rfl, Nat.le_of_ble_eq_true rfl⟩) ⟨PrC.blind _, q_rv7 hK hp hC hk_43, q_pre hp hK hN hZ hC hR hL hA⟩ rfl rfl hl.1 rfl (lv_room (Nat.le_of_ble_eq_true rfl)) dX4_rewriteWith_34 ⟨Nat.le_of_ble_eq_true rfl, Nat.le_of_ble_eq_true rfl⟩) (fun H locs hp => ?_)
      have hk_43 : qk st_44 a_41 = 8 := by rw [(mo_X5_size a_41 _ _ _ hc_45).2.2.1]; exact hk_43
      refine lv_icmp_ge (tgt := 159) hx hb dX4_rewriteWith_37 (by decide) (fun c_47 => ?_) (fun c_47 => ?_)
      · have hf := pif_t c_47 hf
        exact J159 (l5, l6, l8, st_44) _ _ _ ⟨hf, hp, (lv_sub hl [5, 6, 8] rfl)⟩
      · have hf := pif_f c_47 hf
        refine o_aload hx hb dX4_rewriteWith_40 (lv_at hl 7 rfl) ?_
        refine o_aload_n hx hb dX4_rewriteWith_42 rfl (lv_at hl 1 rfl) ?_
        refine lv_iload hx hb dX4_rewriteWith_43 (lv_at hl 9 rfl) ?_
        refine o_aload_n hx hb dX4_rewriteWith_45 rfl (lv_at hl 1 rfl) ?_
        refine o_at ha_42 ?_
        obtain ⟨r_50, st_48, hc_49, hf⟩ := bnd_some hf
        refine q_ci hp hA (va_runV (As := []) (rest := [.int l9, va_rf (Option.map ad l1), va_rf (Option.map ad l7)]) ⟨hx, hb, hml, hown, hts⟩ (c_X5_size l dC dI ka ad ct a_41 _ _ _ hc_49 _) (cwV 0 hts gq_X4_rewriteWith_X5_size_39 rfl rfl rfl (by decide +kernel) ⟨Nat.le_of_ble_eq_true rfl, Nat.le_of_ble_eq_true rfl⟩) ⟨PrC.blind _, q_rv7 hK hp hC hk_43, q_pre hp hK hN hZ hC hR hL hA⟩ rfl rfl hl.1 rfl (lv_room (by simp [rf_cat, vc_i, vc_l, vc_r, vc_n])) dX4_rewriteWith_46 ⟨Nat.le_of_ble_eq_true rfl, Nat.le_of_ble_eq_true rfl⟩) (fun H locs hp => ?_)
        have hk_43 : qk st_48 a_41 = 8 := by rw [(mo_X5_size a_41 _ _ _ hc_49).2.2.1]; exact hk_43
        obtain ⟨a_51, ha_52, hf⟩ := ono_some hf
        refine o_at3 ha_52 ?_
        obtain ⟨hk_53, hf⟩ := gd_some hf
        obtain ⟨st_54, hc_55, hf⟩ := bnv_some hf
        refine q_cv hp hA (va_runV (As := [va_rf (Option.map ad l1), .int l9, .int r_50]) (rest := []) ⟨hx, hb, hml, hown, hts⟩ (c_X2_look l dC dI ka ad ct a_51 l1 l9 r_50 _ _ hc_55 _) (cwV 3 hts gq_X4_rewriteWith_X2_look_43 rfl rfl rfl (by decide +kernel) ⟨Nat.le_of_ble_eq_true rfl, Nat.le_of_ble_eq_true rfl⟩) ⟨PrC.blind _, q_rv4 hK hp hC hk_53, q_pre hp hK hN hZ hC hR hL hA⟩ rfl rfl hl.1 rfl (lv_room (Nat.le_of_ble_eq_true rfl)) dX4_rewriteWith_49 ⟨Nat.le_of_ble_eq_true rfl, Nat.le_of_ble_eq_true rfl⟩) (fun H locs hp => ?_)
        have hk_43 : qk st_54 a_41 = 8 := by rw [(mo_X2_look a_51 l1 l9 r_50 _ _ hc_55).2.2.1]; exact hk_43
        have hk_53 : qk st_54 a_51 = 5 := by rw [(mo_X2_look a_51 l1 l9 r_50 _ _ hc_55).2.2.1]; exact hk_53
        refine lv_iload hx hb dX4_rewriteWith_52 (lv_at hl 8 rfl) ?_
        refine lv_if_ne (tgt := 82) hx hb dX4_rewriteWith_54 (by decide) (fun c_57 => ?_) (fun c_57 => ?_)
        · have hf := pif_f c_57 hf
          exact J82 (l1, l2, l3, l4, l5, l6, l7, l8, l9, l10, st_54) _ _ _ ⟨hf, hp, (lv_sub hl [0, 1, 2, 3, 4, 5, 6, 7, 8, 9, 10] rfl)⟩
        · have hf := pif_t c_57 hf
          refine o_aload hx hb dX4_rewriteWith_57 (lv_at hl 7 rfl) ?_
          refine o_at ha_52 ?_
          refine q_gi (ci := 4) (C := RX2) (T := TX2) (N := 8) (k := 0) hx hb hts iRX2 hown hK hp hk_53 (by decide) rfl rfl (by decide) rfl (Or.inr ⟨_, va_Nw.use rfl (hN.1 (.fieldLinkNest RX4 47 "RecordBench$Piece" "number" "I" "RecordBench") (by decide +kernel))⟩) (fun _ h9 => h9) dX4_rewriteWith_59 ?_
          refine lv_iload_n hx hb dX4_rewriteWith_62 rfl (lv_at hl 3 rfl) ?_
          refine lv_icmp_lt (tgt := 82) hx hb dX4_rewriteWith_63 (by decide) (fun c_58 => ?_) (fun c_58 => ?_)
          · have hf := pif_t c_58 hf
            exact J82 (l1, l2, l3, l4, l5, l6, l7, l8, l9, l10, st_54) _ _ _ ⟨hf, hp, (lv_sub hl [0, 1, 2, 3, 4, 5, 6, 7, 8, 9, 10] rfl)⟩
          · have hf := pif_f c_58 hf
            refine o_aload hx hb dX4_rewriteWith_66 (lv_at hl 6 rfl) ?_
            refine o_aload hx hb dX4_rewriteWith_68 (lv_at hl 5 rfl) ?_
            refine lv_iconst (v := 0) hx hb dX4_rewriteWith_70 (by decide) ?_
            refine o_aload hx hb dX4_rewriteWith_71 (lv_at hl 5 rfl) ?_
            obtain ⟨a_59, ha_60, hf⟩ := ono_some hf
            refine o_at ha_60 ?_
            obtain ⟨hk_61, hf⟩ := gd_some hf
            obtain ⟨r_64, st_62, hc_63, hf⟩ := bnd_some hf
            refine q_ci hp hA (va_runV (As := []) (rest := [.int 0, va_rf (Option.map ad l5), va_rf (Option.map ad l6)]) ⟨hx, hb, hml, hown, hts⟩ (c_X5_size l dC dI ka ad ct a_59 _ _ _ hc_63 _) (cwV 0 hts gq_X4_rewriteWith_X5_size_39 rfl rfl rfl (by decide +kernel) ⟨Nat.le_of_ble_eq_true rfl, Nat.le_of_ble_eq_true rfl⟩) ⟨PrC.blind _, q_rv7 hK hp hC hk_61, q_pre hp hK hN hZ hC hR hL hA⟩ rfl rfl hl.1 rfl (lv_room (by simp [rf_cat, vc_i, vc_l, vc_r, vc_n])) dX4_rewriteWith_73 ⟨Nat.le_of_ble_eq_true rfl, Nat.le_of_ble_eq_true rfl⟩) (fun H locs hp => ?_)
            have hk_43 : qk st_62 a_41 = 8 := by rw [(mo_X5_size a_59 _ _ _ hc_63).2.2.1]; exact hk_43
            have hk_53 : qk st_62 a_51 = 5 := by rw [(mo_X5_size a_59 _ _ _ hc_63).2.2.1]; exact hk_53
            have hk_61 : qk st_62 a_59 = 8 := by rw [(mo_X5_size a_59 _ _ _ hc_63).2.2.1]; exact hk_61
            obtain ⟨a_65, ha_66, hf⟩ := ono_some hf
            refine o_at3 ha_66 ?_
            obtain ⟨hk_67, hf⟩ := gd_some hf
            obtain ⟨st_68, hc_69, hf⟩ := bnv_some hf
            refine q_cv hp hA (va_runV (As := [va_rf (Option.map ad l5), .int 0, .int r_64]) (rest := []) ⟨hx, hb, hml, hown, hts⟩ (c_X5_append l dC dI ka ad ct a_65 l5 0 r_64 _ _ hc_69 _) (cwV 3 hts gq_X4_rewriteWith_X5_append_51 rfl rfl rfl (by decide +kernel) ⟨Nat.le_of_ble_eq_true rfl, Nat.le_of_ble_eq_true rfl⟩) ⟨PrC.blind _, q_rv7 hK hp hC hk_67, q_pre hp hK hN hZ hC hR hL hA⟩ rfl rfl hl.1 rfl (lv_room (Nat.le_of_ble_eq_true rfl)) dX4_rewriteWith_76 ⟨Nat.le_of_ble_eq_true rfl, Nat.le_of_ble_eq_true rfl⟩) (fun H locs hp => ?_)
            have hk_43 : qk st_68 a_41 = 8 := by rw [(mo_X5_append a_65 l5 0 r_64 _ _ hc_69).2.2.1]; exact hk_43
            have hk_53 : qk st_68 a_51 = 5 := by rw [(mo_X5_append a_65 l5 0 r_64 _ _ hc_69).2.2.1]; exact hk_53
            have hk_61 : qk st_68 a_59 = 8 := by rw [(mo_X5_append a_65 l5 0 r_64 _ _ hc_69).2.2.1]; exact hk_61
            have hk_67 : qk st_68 a_65 = 8 := by rw [(mo_X5_append a_65 l5 0 r_64 _ _ hc_69).2.2.1]; exact hk_67
            refine lv_iconst (v := 1) hx hb dX4_rewriteWith_79 (by decide) ?_
            refine lv_istore (i := 8) (lv' := [(8, .int 1), (0, .ref (ad h0)), (1, va_rf (Option.map ad l1)), (2, va_rf (Option.map ad l2)), (3, .int l3), (4, .int l4), (5, va_rf (Option.map ad l5)), (6, va_rf (Option.map ad l6)), (7, va_rf (Option.map ad l7)), (9, .int l9), (10, .int l10)]) hx hb dX4_rewriteWith_80 hl (by decide) (by simp [rf_cat, vc_i, vc_l, vc_r, vc_n]) (fun ls hl => ?_)
            exact J82 (l1, l2, l3, l4, l5, l6, l7, 1, l9, l10, st_68) _ _ _ ⟨hf, hp, (lv_sub hl [1, 2, 3, 4, 5, 6, 7, 8, 0, 9, 10] rfl)⟩
  unfold fX4_rewriteWith at hf
  refine o_aload hx hb dX4_rewriteWith_0 (lv_at hl 6 rfl) ?_
  refine lv_iconst (v := 0) hx hb dX4_rewriteWith_2 (by decide) ?_
  obtain ⟨a_71, ha_72, hf⟩ := ono_some hf
  refine o_at1 ha_72 ?_
  obtain ⟨hk_73, hf⟩ := gd_some hf
  obtain ⟨r_76, st_74, hc_75, hf⟩ := bnd_some hf
  refine q_ci hp hA (va_runV (As := [.int 0]) (rest := []) ⟨hx, hb, hml, hown, hts⟩ (c_X5_cut l dC dI ka ad ct a_71 0 _ _ _ hc_75 _) (cwV 1 hts gq_X4_rewriteWith_X5_cut_35 rfl rfl rfl (by decide +kernel) ⟨Nat.le_of_ble_eq_true rfl, Nat.le_of_ble_eq_true rfl⟩) ⟨PrC.blind _, q_rv7 hK hp hC hk_73, q_pre hp hK hN hZ hC hR hL hA⟩ rfl rfl hl.1 rfl (lv_room (Nat.le_of_ble_eq_true rfl)) dX4_rewriteWith_3 ⟨Nat.le_of_ble_eq_true rfl, Nat.le_of_ble_eq_true rfl⟩) (fun H locs hp => ?_)
  have hk_73 : qk st_74 a_71 = 8 := by rw [(mo_X5_cut a_71 0 _ _ _ hc_75).2.2.1]; exact hk_73
  refine lv_pop hx hb dX4_rewriteWith_6 rfl ?_
  refine lv_aload_n hx hb dX4_rewriteWith_7 rfl (lv_at hl 0 rfl) ?_
  obtain ⟨hk_77, hf⟩ := gd_some hf
  refine q_gp (ci := 6) (C := RX4) (T := TX4) (N := 3) (k := 1) hx hb hts iRX4 hown hK hp hk_77 (by decide) rfl rfl (by decide) rfl (Or.inl (hts (.fieldLink RX4 17 "RecordBench$RecordWriter" "pieces" "[LRecordBench$Piece;") (by decide +kernel))) (fun _ h9 => h9) dX4_rewriteWith_8 ?_
  refine lv_iconst (v := 0) hx hb dX4_rewriteWith_11 (by decide) ?_
  obtain ⟨a_78, ha_79, hf⟩ := ono_some hf
  refine o_at1 ha_79 ?_
  obtain ⟨hk_80, hf⟩ := gd_some hf
  obtain ⟨g_81, hf⟩ := gd_some hf
  refine q_aq (t0 := 4) hx hb hK hp hk_80 (by decide) rfl g_81 dX4_rewriteWith_12 ?_
  obtain ⟨v_82, ev_82, hf⟩ := nam_some hf
  refine W_too (y := v_82) ev_82.symm ?_
  refine o_astore (i := 7) (lv' := [(7, va_rf (Option.map ad v_82)), (0, .ref (ad h0)), (1, va_rf (Option.map ad p0)), (2, va_rf (Option.map ad p1)), (3, .int p2), (4, .int p3), (5, va_rf (Option.map ad p4)), (6, va_rf (Option.map ad p5))]) hx hb dX4_rewriteWith_13 hl (by decide) (by simp [rf_cat, vc_i, vc_l, vc_r, vc_n]) (fun ls hl => ?_)
  refine lv_iconst (v := 0) hx hb dX4_rewriteWith_15 (by decide) ?_
  refine lv_istore (i := 8) (lv' := [(8, .int 0), (7, va_rf (Option.map ad v_82)), (0, .ref (ad h0)), (1, va_rf (Option.map ad p0)), (2, va_rf (Option.map ad p1)), (3, .int p2), (4, .int p3), (5, va_rf (Option.map ad p4)), (6, va_rf (Option.map ad p5))]) hx hb dX4_rewriteWith_16 hl (by decide) (by simp [rf_cat, vc_i, vc_l, vc_r, vc_n]) (fun ls hl => ?_)
  refine lv_iconst (v := 0) hx hb dX4_rewriteWith_18 (by decide) ?_
  refine lv_istore (i := 9) (lv' := [(9, .int 0), (8, .int 0), (7, va_rf (Option.map ad v_82)), (0, .ref (ad h0)), (1, va_rf (Option.map ad p0)), (2, va_rf (Option.map ad p1)), (3, .int p2), (4, .int p3), (5, va_rf (Option.map ad p4)), (6, va_rf (Option.map ad p5))]) hx hb dX4_rewriteWith_19 hl (by decide) rfl (fun ls hl => ?_)
  refine lv_iconst (v := 0) hx hb dX4_rewriteWith_21 (by decide) ?_
  refine lv_istore (i := 10) (lv' := [(10, .int 0), (9, .int 0), (8, .int 0), (7, va_rf (Option.map ad v_82)), (0, .ref (ad h0)), (1, va_rf (Option.map ad p0)), (2, va_rf (Option.map ad p1)), (3, .int p2), (4, .int p3), (5, va_rf (Option.map ad p4)), (6, va_rf (Option.map ad p5))]) hx hb dX4_rewriteWith_22 hl (by decide) rfl (fun ls hl => ?_)
  exact J24 fuel (p0, p1, p2, p3, p4, p5, v_82, 0, 0, 0, st_74) _ _ _ ⟨hf, hp, (lv_sub hl [4, 5, 6, 7, 8, 9, 10, 3, 2, 1, 0] rfl)⟩
noncomputable def fX4_rewrite (h0 : Nat) (p0 : Option Nat) (p1 : Option Nat) (p2 : Option Nat) (st : CS) : Option (CS) := gd (qk st h0 = 7) (bnv (fX4_rewriteWith h0 p0 p1 0 0 (qP st h0 2) p2 st) (fun st_2 => some st_2))
set_option maxHeartbeats 1000000 in
theorem mo_X4_rewrite (h0 : Nat) (p0 : Option Nat) (p1 : Option Nat) (p2 : Option Nat) (st : CS) (st' : CS) (hf : fX4_rewrite h0 p0 p1 p2 st = some st') : Ke st st' := by
  unfold fX4_rewrite at hf
  have hm : Ke st st := Ke.rf
  obtain ⟨hk_1, hf⟩ := gd_some hf
  obtain ⟨st_2, hc_3, hf⟩ := bnv_some hf
  have hm := hm.tr (mo_X4_rewriteWith h0 p0 p1 0 0 (qP st h0 2) p2 _ _ hc_3)
  have e2 := Option.some.inj hf
  exact e2 ▸ hm
def wq_X4_rewrite : List Cond := .code yX4_rewrite cX4_rewrite 4 none :: (([.fieldLink RX4 27 "RecordBench$RecordWriter" "nothing" "LRecordBench$Row;", .methodLink RX4 31 yX4_rewriteWith, .instanceMethod yX4_rewriteWith, .selects RX4 yX4_rewriteWith yX4_rewriteWith, .initialized RX4, .code yX4_rewriteWith cX4_rewriteWith 13 none, .fieldLink RX4 17 "RecordBench$RecordWriter" "pieces" "[LRecordBench$Piece;", .methodLink RX4 39 yX5_size, .instanceMethod yX5_size, .selects RX5 yX5_size yX5_size, .initialized RX5, .methodLink RX4 51 yX5_append, .instanceMethod yX5_append, .selects RX5 yX5_append yX5_append, .methodLink RX4 66 yX4_copyPiece, .instanceMethod yX4_copyPiece, .selects RX4 yX4_copyPiece yX4_copyPiece, .methodLink RX4 54 yX1_knownAt, .instanceMethod yX1_knownAt, .selects RX1 yX1_knownAt yX1_knownAt, .initialized RX1, .methodLink RX4 43 yX2_look, .instanceMethod yX2_look, .selects RX2 yX2_look yX2_look, .initialized RX2, .methodLink RX4 35 yX5_cut, .instanceMethod yX5_cut, .selects RX5 yX5_cut yX5_cut, .code yX5_size cX5_size 1 (some .int), .fieldLink RX5 21 "RecordBench$Row" "size" "I", .code yX5_append cX5_append 5 none, .methodLink RX5 48 yX5_byteAt, .instanceMethod yX5_byteAt, .selects RX5 yX5_byteAt yX5_byteAt, .methodLink RX5 25 yX5_push, .instanceMethod yX5_push, .selects RX5 yX5_push yX5_push, .code yX5_byteAt cX5_byteAt 2 (some .int), .fieldLink RX5 15 "RecordBench$Row" "bytes" "[I", .code yX5_push cX5_push 2 none, .code yX4_copyPiece cX4_copyPiece 8 none, .fieldLink RX4 9 "RecordBench$RecordWriter" "makes" "[LRecordBench$Make;", .methodLink RX4 73 yX5_pushKey, .instanceMethod yX5_pushKey, .selects RX5 yX5_pushKey yX5_pushKey, .methodLink RX4 77 yX0_isNumber, .instanceMethod yX0_isNumber, .selects RX0 yX0_isNumber yX0_isNumber, .initialized RX0, .methodLink RX4 102 yX5_push, .static yX8_makeOf, .initialized RX8, .methodLink RX4 112 yX4_copyAll, .instanceMethod yX4_copyAll, .selects RX4 yX4_copyAll yX4_copyAll, .methodLink RX4 116 yX5_replace, .instanceMethod yX5_replace, .selects RX5 yX5_replace yX5_replace, .methodLink RX4 96 yX5_pushVarint, .instanceMethod yX5_pushVarint, .selects RX5 yX5_pushVarint yX5_pushVarint, .methodLink RX4 81 yX2_asNumber, .instanceMethod yX2_asNumber, .selects RX2 yX2_asNumber yX2_asNumber, .methodLink RX4 85 yX5_pushNumber, .instanceMethod yX5_pushNumber, .selects RX5 yX5_pushNumber yX5_pushNumber, .code yX5_pushKey cX5_pushKey 2 none, .constantLong RX5 37 (2), .methodLink RX5 33 yX5_pushVarint, .methodLink RX5 44 yX0_hasLength, .instanceMethod yX0_hasLength, .selects RX0 yX0_hasLength yX0_hasLength, .code yX5_pushVarint cX5_pushVarint 6 none, .constantLong RX5 29 (-128), .constantLong RX5 31 (127), .code yX0_hasLength cX0_hasLength 1 (some .boolean), .fieldLink RX0 15 "RecordBench$Field" "kind" "I", .code yX0_isNumber cX0_isNumber 1 (some .boolean), .code yX8_makeOf cX8_makeOf 2 (some (.object "RecordBench$Make")), .code yX4_copyAll cX4_copyAll 10 none, .code yX2_look cX2_look 6 none, .fieldLink RX2 9 "RecordBench$Piece" "number" "I", .fieldLink RX2 15 "RecordBench$Piece" "withLength" "Z", .fieldLink RX2 19 "RecordBench$Piece" "raw" "J", .fieldLink RX2 23 "RecordBench$Piece" "body" "I", .fieldLink RX2 26 "RecordBench$Piece" "end" "I", .fieldLink RX2 29 "RecordBench$Piece" "fault" "I", .fieldLink RX2 32 "RecordBench$Piece" "pos" "I", .fieldLink RX2 35 "RecordBench$Piece" "broken" "Z", .methodLink RX2 42 yX2_place, .instanceMethod yX2_place, .selects RX2 yX2_place yX2_place, .methodLink RX2 38 yX2_takeVarint, .instanceMethod yX2_takeVarint, .selects RX2 yX2_takeVarint yX2_takeVarint, .code yX2_place cX2_place 6 none, .constantLong RX2 46 (30), .code yX2_takeVarint cX2_takeVarint 7 (some .long), .constantLong RX2 54 (127), .methodLink RX2 48 yX5_byteAt, .code yX1_knownAt cX1_knownAt 3 (some (.object "RecordBench$Field")), .methodLink RX1 21 yX1_fieldAt, .instanceMethod yX1_fieldAt, .selects RX1 yX1_fieldAt yX1_fieldAt, .code yX1_fieldAt cX1_fieldAt 2 (some (.object "RecordBench$Field")), .fieldLink RX1 11 "RecordBench$Make" "fields" "[LRecordBench$Field;", .code yX5_replace cX5_replace 3 none, .code yX2_asNumber cX2_asNumber 1 (some .long), .code yX5_pushNumber cX5_pushNumber 3 none, .code yX5_cut cX5_cut 2 (some .boolean)] : List Cond) ++ wsX40 ++ wsX20 ++ wsX00 ++ wsX50 ++ wsX10)
theorem gs_wq_X4_rewrite_wsX40 : GoodIn wq_X4_rewrite wsX40 := fun w h => ⟨List.mem_cons_of_mem _ (List.mem_append_left _ (List.mem_append_left _ (List.mem_append_left _ (List.mem_append_left _ (List.mem_append_right _ h))))), (gt_wsX40 w h).2⟩
theorem gs_wq_X4_rewrite_wsX20 : GoodIn wq_X4_rewrite wsX20 := fun w h => ⟨List.mem_cons_of_mem _ (List.mem_append_left _ (List.mem_append_left _ (List.mem_append_left _ (List.mem_append_right _ h)))), (gt_wsX20 w h).2⟩
theorem gs_wq_X4_rewrite_wsX00 : GoodIn wq_X4_rewrite wsX00 := fun w h => ⟨List.mem_cons_of_mem _ (List.mem_append_left _ (List.mem_append_left _ (List.mem_append_right _ h))), (gt_wsX00 w h).2⟩
theorem gs_wq_X4_rewrite_wsX50 : GoodIn wq_X4_rewrite wsX50 := fun w h => ⟨List.mem_cons_of_mem _ (List.mem_append_left _ (List.mem_append_right _ h)), (gt_wsX50 w h).2⟩
theorem gs_wq_X4_rewrite_wsX10 : GoodIn wq_X4_rewrite wsX10 := fun w h => ⟨List.mem_cons_of_mem _ (List.mem_append_right _ h), (gt_wsX10 w h).2⟩
set_option maxRecDepth 20000 in
theorem gq_X4_rewrite_X4_rewriteWith_31 : GoodIn wq_X4_rewrite (wsV RX4 31 RX4 yX4_rewriteWith wq_X4_rewriteWith) := goodIn_app (goodIn_r _ [2, 3, 4, 5] rfl rfl) (goodIn_ca (goodIn_ca (goodIn_ca (goodIn_ca (goodIn_ca (goodIn_r _ [6, 7, 8, 9, 10, 11, 12, 13, 14, 15, 16, 17, 5, 18, 19, 20, 21, 22, 23, 24, 25, 26, 27, 28, 29, 30, 31, 32, 33, 34, 35, 36, 37, 38, 39, 40, 41, 42, 43, 44, 45, 46, 47, 48, 49, 50, 51, 52, 53, 54, 55, 56, 57, 58, 59, 60, 61, 62, 63, 64, 65, 66, 67, 68, 69, 70, 71, 72, 73, 74, 75, 76, 77, 78, 79, 80, 81, 82, 83, 84, 85, 86, 87, 88, 89, 90, 91, 92, 93, 94, 95, 96, 97, 98, 99, 100, 101, 102, 103, 104, 105, 106, 107, 108, 109, 110, 111] rfl rfl) gs_wq_X4_rewrite_wsX40) gs_wq_X4_rewrite_wsX20) gs_wq_X4_rewrite_wsX00) gs_wq_X4_rewrite_wsX50) gs_wq_X4_rewrite_wsX10)
set_option maxHeartbeats 4000000 in
set_option maxRecDepth 100000 in
theorem c_X4_rewrite (l : Launch) (dC : Nat → ClassId) (dI : Nat → Nat → Nat) (ka ad : Nat → Nat) (ct : Nat → ClassId) (h0 : Nat) (p0 : Option Nat) (p1 : Option Nat) (p2 : Option Nat) (st st' : CS) (hf : fX4_rewrite h0 p0 p1 p2 st = some st') (sz : Nat) : Met l yX4_rewrite wq_X4_rewrite ({ frames := 53, cells := 0, slots := 0, locals := 1479 }) (va_Pc [.ref (ad h0), va_rf (Option.map ad p0), va_rf (Option.map ad p1), va_rf (Option.map ad p2)] (PrC (dC, dI) ct ka ad st sz)) (va_Qv (fun (_ : Unit) => True) (fun _ => CB (dC, dI) ct ka ad st' (aC ad st sz)) (aC ad st sz)) 0 0 (aC ad st sz) := by
  refine Met.ofW (cc := cX4_rewrite) (maxL := 4) (ret := none) (by decide) rfl ?_
  intro p e s m args below meth c s₁ B hml hv
  obtain ⟨rfl, hsz, hw0, hK, hN, hZ, hC, hR, hL, hw1, hw2⟩ := hv
  have hx := B.exec
  have hb := B.bytes
  have hr := B.returns
  have hts := atoms_spec (ws := wq_X4_rewrite) B.pre
  have hown : s.vm.findClass RX4 = some m.cls := findClass_of_methodNamed B.named
  have iRX4 : ∀ w ∈ u_ws RX4 TX4 3, w ∈ wq_X4_rewrite := fun w h => List.mem_cons_of_mem _ (List.mem_append_left _ (List.mem_append_left _ (List.mem_append_left _ (List.mem_append_left _ (List.mem_append_right _ h)))))
  subst hsz
  have hp : Cp (dC, dI) ka ad ct (aC ad st s.heap.size) s.heap st s.heap [] := ⟨fun i a b => ⟨hw0 i a b, Or.inl ⟨i, a, b, rfl⟩⟩, va_S.rf, hw1, hw2⟩
  generalize hAe : aC ad st s.heap.size = A at hp hZ hC ⊢
  have hA : ∀ q : Nat, s.heap.size ≤ q → A q := fun q h => by rw [← hAe]; exact Or.inr h
  have hl := lv_entry ([.ref (ad h0), va_rf (Option.map ad p0), va_rf (Option.map ad p1), va_rf (Option.map ad p2)]) (n := 4) (by simp [lg_sl, rf_cat, vc_i, vc_l, vc_r, vc_n])
  rw [lg_entry_eq]
  generalize (lg_sl ([.ref (ad h0), va_rf (Option.map ad p0), va_rf (Option.map ad p1), va_rf (Option.map ad p2)]) ++ List.replicate (4 - (lg_sl ([.ref (ad h0), va_rf (Option.map ad p0), va_rf (Option.map ad p1), va_rf (Option.map ad p2)])).length) Slot.unset).toArray = ls at hl ⊢
  have hl : lv_has ls 4 [(0, .ref (ad h0)), (1, va_rf (Option.map ad p0)), (2, va_rf (Option.map ad p1)), (3, va_rf (Option.map ad p2))] := by simpa [lv_args, rf_cat, vc_i, vc_l, vc_r, vc_n] using hl
  unfold fX4_rewrite at hf
  refine lv_aload_n hx hb dX4_rewrite_0 rfl (lv_at hl 0 rfl) ?_
  refine o_aload_n hx hb dX4_rewrite_1 rfl (lv_at hl 1 rfl) ?_
  refine o_aload_n hx hb dX4_rewrite_2 rfl (lv_at hl 2 rfl) ?_
  refine lv_iconst (v := 0) hx hb dX4_rewrite_3 (by decide) ?_
  refine lv_iconst (v := 0) hx hb dX4_rewrite_4 (by decide) ?_
  refine lv_aload_n hx hb dX4_rewrite_5 rfl (lv_at hl 0 rfl) ?_
  obtain ⟨hk_1, hf⟩ := gd_some hf
  refine q_gp (ci := 6) (C := RX4) (T := TX4) (N := 3) (k := 2) hx hb hts iRX4 hown hK hp hk_1 (by decide) rfl rfl (by decide) rfl (Or.inl (hts (.fieldLink RX4 27 "RecordBench$RecordWriter" "nothing" "LRecordBench$Row;") (by decide +kernel))) (fun _ h9 => h9) dX4_rewrite_6 ?_
  refine o_aload_n hx hb dX4_rewrite_9 rfl (lv_at hl 3 rfl) ?_
  obtain ⟨st_2, hc_3, hf⟩ := bnv_some hf
  refine q_cv hp hA (va_runV (As := [va_rf (Option.map ad p0), va_rf (Option.map ad p1), .int 0, .int 0, va_rf (Option.map ad (qP st h0 2)), va_rf (Option.map ad p2)]) (rest := []) ⟨hx, hb, hml, hown, hts⟩ (c_X4_rewriteWith l dC dI ka ad ct h0 p0 p1 0 0 (qP st h0 2) p2 _ _ hc_3 _) (cwV 6 hts gq_X4_rewrite_X4_rewriteWith_31 rfl rfl rfl (by decide +kernel) ⟨Nat.le_of_ble_eq_true rfl, Nat.le_of_ble_eq_true rfl⟩) ⟨PrC.blind _, q_rv6 hK hp hC hk_1, q_pre hp hK hN hZ hC hR hL hA⟩ rfl rfl hl.1 rfl (lv_room (Nat.le_of_ble_eq_true rfl)) dX4_rewrite_10 ⟨Nat.le_of_ble_eq_true rfl, Nat.le_of_ble_eq_true rfl⟩) (fun H locs hp => ?_)
  have hk_1 : qk st_2 h0 = 7 := by rw [(mo_X4_rewriteWith h0 p0 p1 0 0 (qP st h0 2) p2 _ _ hc_3).2.2.1]; exact hk_1
  have e2 := Option.some.inj hf
  exact W.vret hx hb hr (fun t ht hW => ⟨⟨(), rfl, trivial, Cp.end e2 hp ht⟩, hp.2.1.F ht⟩) hp.2.1.2.2 dX4_rewrite_13
