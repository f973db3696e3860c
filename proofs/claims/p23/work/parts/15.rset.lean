theorem dX9_drop_0 : decode cX9_drop 0 = .ok (.iload_n 1, 1) := by decide +kernel
theorem dX9_drop_1 : decode cX9_drop 1 = .ok (.invokestatic 249, 3) := by decide +kernel
theorem dX9_drop_12 : decode cX9_drop 12 = .ok (.ifCond .eq 12, 3) := by decide +kernel
theorem dX9_drop_15 : decode cX9_drop 15 = .ok (.aload_n 0, 1) := by decide +kernel
theorem dX9_drop_16 : decode cX9_drop 16 = .ok (.iload_n 2, 1) := by decide +kernel
theorem dX9_drop_17 : decode cX9_drop 17 = .ok (.iload_n 3, 1) := by decide +kernel
theorem dX9_drop_18 : decode cX9_drop 18 = .ok (.invokevirtual 246, 3) := by decide +kernel
theorem dX9_drop_21 : decode cX9_drop 21 = .ok (.ifCond .ne 5, 3) := by decide +kernel
theorem dX9_drop_24 : decode cX9_drop 24 = .ok (.iconst (-1), 1) := by decide +kernel
theorem dX9_drop_25 : decode cX9_drop 25 = .ok (.ireturn, 1) := by decide +kernel
theorem dX9_drop_26 : decode cX9_drop 26 = .ok (.aload_n 0, 1) := by decide +kernel
theorem dX9_drop_27 : decode cX9_drop 27 = .ok (.iload_n 1, 1) := by decide +kernel
theorem dX9_drop_28 : decode cX9_drop 28 = .ok (.iload_n 2, 1) := by decide +kernel
theorem dX9_drop_29 : decode cX9_drop 29 = .ok (.invokevirtual 308, 3) := by decide +kernel
theorem dX9_drop_32 : decode cX9_drop 32 = .ok (.ifCond .ne 6, 3) := by decide +kernel
theorem dX9_drop_35 : decode cX9_drop 35 = .ok (.bipush (-2), 2) := by decide +kernel
theorem dX9_drop_37 : decode cX9_drop 37 = .ok (.ireturn, 1) := by decide +kernel
theorem dX9_drop_38 : decode cX9_drop 38 = .ok (.aload_n 0, 1) := by decide +kernel
theorem dX9_drop_39 : decode cX9_drop 39 = .ok (.iconst 0, 1) := by decide +kernel
theorem dX9_drop_4 : decode cX9_drop 4 = .ok (.ifCond .eq 20, 3) := by decide +kernel
theorem dX9_drop_40 : decode cX9_drop 40 = .ok (.putfield 337, 3) := by decide +kernel
theorem dX9_drop_43 : decode cX9_drop 43 = .ok (.aload_n 0, 1) := by decide +kernel
theorem dX9_drop_44 : decode cX9_drop 44 = .ok (.iload_n 1, 1) := by decide +kernel
theorem dX9_drop_45 : decode cX9_drop 45 = .ok (.iload_n 2, 1) := by decide +kernel
theorem dX9_drop_46 : decode cX9_drop 46 = .ok (.iload_n 3, 1) := by decide +kernel
theorem dX9_drop_47 : decode cX9_drop 47 = .ok (.invokevirtual 343, 3) := by decide +kernel
theorem dX9_drop_50 : decode cX9_drop 50 = .ok (.ireturn, 1) := by decide +kernel
theorem dX9_drop_7 : decode cX9_drop 7 = .ok (.aload_n 0, 1) := by decide +kernel
theorem dX9_drop_8 : decode cX9_drop 8 = .ok (.iload_n 2, 1) := by decide +kernel
theorem dX9_drop_9 : decode cX9_drop 9 = .ok (.invokevirtual 239, 3) := by decide +kernel
theorem dX9_nest_0 : decode cX9_nest 0 = .ok (.iload_n 1, 1) := by decide +kernel
theorem dX9_nest_1 : decode cX9_nest 1 = .ok (.invokestatic 249, 3) := by decide +kernel
theorem dX9_nest_100 : decode cX9_nest 100 = .ok (.iload 5, 2) := by decide +kernel
theorem dX9_nest_102 : decode cX9_nest 102 = .ok (.invokevirtual 331, 3) := by decide +kernel
theorem dX9_nest_105 : decode cX9_nest 105 = .ok (.aload_n 0, 1) := by decide +kernel
theorem dX9_nest_106 : decode cX9_nest 106 = .ok (.invokevirtual 340, 3) := by decide +kernel
theorem dX9_nest_109 : decode cX9_nest 109 = .ok (.aload_n 0, 1) := by decide +kernel
theorem dX9_nest_110 : decode cX9_nest 110 = .ok (.getfield 117, 3) := by decide +kernel
theorem dX9_nest_113 : decode cX9_nest 113 = .ok (.iconst 0, 1) := by decide +kernel
theorem dX9_nest_114 : decode cX9_nest 114 = .ok (.iconst 0, 1) := by decide +kernel
theorem dX9_nest_115 : decode cX9_nest 115 = .ok (.iastore, 1) := by decide +kernel
theorem dX9_nest_116 : decode cX9_nest 116 = .ok (.aload_n 0, 1) := by decide +kernel
theorem dX9_nest_117 : decode cX9_nest 117 = .ok (.iconst 0, 1) := by decide +kernel
theorem dX9_nest_118 : decode cX9_nest 118 = .ok (.iconst 2, 1) := by decide +kernel
theorem dX9_nest_119 : decode cX9_nest 119 = .ok (.iload_n 3, 1) := by decide +kernel
theorem dX9_nest_12 : decode cX9_nest 12 = .ok (.ifCond .eq 42, 3) := by decide +kernel
theorem dX9_nest_120 : decode cX9_nest 120 = .ok (.imul, 1) := by decide +kernel
theorem dX9_nest_121 : decode cX9_nest 121 = .ok (.iconst 1, 1) := by decide +kernel
theorem dX9_nest_122 : decode cX9_nest 122 = .ok (.iadd, 1) := by decide +kernel
theorem dX9_nest_123 : decode cX9_nest 123 = .ok (.i2l, 1) := by decide +kernel
theorem dX9_nest_124 : decode cX9_nest 124 = .ok (.invokevirtual 323, 3) := by decide +kernel
theorem dX9_nest_127 : decode cX9_nest 127 = .ok (.aload_n 0, 1) := by decide +kernel
theorem dX9_nest_128 : decode cX9_nest 128 = .ok (.iconst 0, 1) := by decide +kernel
theorem dX9_nest_129 : decode cX9_nest 129 = .ok (.aload_n 0, 1) := by decide +kernel
theorem dX9_nest_130 : decode cX9_nest 130 = .ok (.getfield 337, 3) := by decide +kernel
theorem dX9_nest_133 : decode cX9_nest 133 = .ok (.i2l, 1) := by decide +kernel
theorem dX9_nest_134 : decode cX9_nest 134 = .ok (.invokevirtual 323, 3) := by decide +kernel
theorem dX9_nest_137 : decode cX9_nest 137 = .ok (.iconst 0, 1) := by decide +kernel
theorem dX9_nest_138 : decode cX9_nest 138 = .ok (.istore 6, 2) := by decide +kernel
theorem dX9_nest_140 : decode cX9_nest 140 = .ok (.iload 6, 2) := by decide +kernel
theorem dX9_nest_142 : decode cX9_nest 142 = .ok (.aload_n 0, 1) := by decide +kernel
theorem dX9_nest_143 : decode cX9_nest 143 = .ok (.getfield 337, 3) := by decide +kernel
theorem dX9_nest_146 : decode cX9_nest 146 = .ok (.if_icmp .ge 21, 3) := by decide +kernel
theorem dX9_nest_149 : decode cX9_nest 149 = .ok (.aload_n 0, 1) := by decide +kernel
theorem dX9_nest_15 : decode cX9_nest 15 = .ok (.iload_n 1, 1) := by decide +kernel
theorem dX9_nest_150 : decode cX9_nest 150 = .ok (.iconst 0, 1) := by decide +kernel
theorem dX9_nest_151 : decode cX9_nest 151 = .ok (.aload_n 0, 1) := by decide +kernel
theorem dX9_nest_152 : decode cX9_nest 152 = .ok (.getfield 123, 3) := by decide +kernel
theorem dX9_nest_155 : decode cX9_nest 155 = .ok (.iload 6, 2) := by decide +kernel
theorem dX9_nest_157 : decode cX9_nest 157 = .ok (.iaload, 1) := by decide +kernel
theorem dX9_nest_158 : decode cX9_nest 158 = .ok (.invokevirtual 320, 3) := by decide +kernel
theorem dX9_nest_16 : decode cX9_nest 16 = .ok (.iload 4, 2) := by decide +kernel
theorem dX9_nest_161 : decode cX9_nest 161 = .ok (.iinc 6 1, 3) := by decide +kernel
theorem dX9_nest_164 : decode cX9_nest 164 = .ok (.goto (-24), 3) := by decide +kernel
theorem dX9_nest_167 : decode cX9_nest 167 = .ok (.aload_n 0, 1) := by decide +kernel
theorem dX9_nest_168 : decode cX9_nest 168 = .ok (.invokevirtual 340, 3) := by decide +kernel
theorem dX9_nest_171 : decode cX9_nest 171 = .ok (.aload_n 0, 1) := by decide +kernel
theorem dX9_nest_172 : decode cX9_nest 172 = .ok (.iload_n 1, 1) := by decide +kernel
theorem dX9_nest_173 : decode cX9_nest 173 = .ok (.iload_n 2, 1) := by decide +kernel
theorem dX9_nest_174 : decode cX9_nest 174 = .ok (.iload_n 3, 1) := by decide +kernel
theorem dX9_nest_175 : decode cX9_nest 175 = .ok (.invokevirtual 343, 3) := by decide +kernel
theorem dX9_nest_178 : decode cX9_nest 178 = .ok (.ireturn, 1) := by decide +kernel
theorem dX9_nest_18 : decode cX9_nest 18 = .ok (.if_icmp .eq 36, 3) := by decide +kernel
theorem dX9_nest_21 : decode cX9_nest 21 = .ok (.aload_n 0, 1) := by decide +kernel
theorem dX9_nest_22 : decode cX9_nest 22 = .ok (.iload_n 2, 1) := by decide +kernel
theorem dX9_nest_23 : decode cX9_nest 23 = .ok (.invokevirtual 239, 3) := by decide +kernel
theorem dX9_nest_26 : decode cX9_nest 26 = .ok (.ifCond .eq 28, 3) := by decide +kernel
theorem dX9_nest_29 : decode cX9_nest 29 = .ok (.aload_n 0, 1) := by decide +kernel
theorem dX9_nest_30 : decode cX9_nest 30 = .ok (.iload_n 2, 1) := by decide +kernel
theorem dX9_nest_31 : decode cX9_nest 31 = .ok (.iload_n 3, 1) := by decide +kernel
theorem dX9_nest_32 : decode cX9_nest 32 = .ok (.invokevirtual 246, 3) := by decide +kernel
theorem dX9_nest_35 : decode cX9_nest 35 = .ok (.ifCond .eq 19, 3) := by decide +kernel
theorem dX9_nest_38 : decode cX9_nest 38 = .ok (.aload_n 0, 1) := by decide +kernel
theorem dX9_nest_39 : decode cX9_nest 39 = .ok (.getfield 13, 3) := by decide +kernel
theorem dX9_nest_4 : decode cX9_nest 4 = .ok (.ifCond .eq 50, 3) := by decide +kernel
theorem dX9_nest_42 : decode cX9_nest 42 = .ok (.bipush 31, 2) := by decide +kernel
theorem dX9_nest_44 : decode cX9_nest 44 = .ok (.iload_n 2, 1) := by decide +kernel
theorem dX9_nest_45 : decode cX9_nest 45 = .ok (.imul, 1) := by decide +kernel
theorem dX9_nest_46 : decode cX9_nest 46 = .ok (.iload_n 3, 1) := by decide +kernel
theorem dX9_nest_47 : decode cX9_nest 47 = .ok (.iadd, 1) := by decide +kernel
theorem dX9_nest_48 : decode cX9_nest 48 = .ok (.iaload, 1) := by decide +kernel
theorem dX9_nest_49 : decode cX9_nest 49 = .ok (.bipush 6, 2) := by decide +kernel
theorem dX9_nest_51 : decode cX9_nest 51 = .ok (.if_icmp .eq 5, 3) := by decide +kernel
theorem dX9_nest_54 : decode cX9_nest 54 = .ok (.iconst (-1), 1) := by decide +kernel
theorem dX9_nest_55 : decode cX9_nest 55 = .ok (.ireturn, 1) := by decide +kernel
theorem dX9_nest_56 : decode cX9_nest 56 = .ok (.aload_n 0, 1) := by decide +kernel
theorem dX9_nest_57 : decode cX9_nest 57 = .ok (.getfield 20, 3) := by decide +kernel
theorem dX9_nest_60 : decode cX9_nest 60 = .ok (.bipush 31, 2) := by decide +kernel
theorem dX9_nest_62 : decode cX9_nest 62 = .ok (.iload_n 2, 1) := by decide +kernel
theorem dX9_nest_63 : decode cX9_nest 63 = .ok (.imul, 1) := by decide +kernel
theorem dX9_nest_64 : decode cX9_nest 64 = .ok (.iload_n 3, 1) := by decide +kernel
theorem dX9_nest_65 : decode cX9_nest 65 = .ok (.iadd, 1) := by decide +kernel
theorem dX9_nest_66 : decode cX9_nest 66 = .ok (.iaload, 1) := by decide +kernel
theorem dX9_nest_67 : decode cX9_nest 67 = .ok (.istore 5, 2) := by decide +kernel
theorem dX9_nest_69 : decode cX9_nest 69 = .ok (.aload_n 0, 1) := by decide +kernel
theorem dX9_nest_7 : decode cX9_nest 7 = .ok (.iload 4, 2) := by decide +kernel
theorem dX9_nest_70 : decode cX9_nest 70 = .ok (.iload_n 1, 1) := by decide +kernel
theorem dX9_nest_71 : decode cX9_nest 71 = .ok (.iload_n 2, 1) := by decide +kernel
theorem dX9_nest_72 : decode cX9_nest 72 = .ok (.invokevirtual 308, 3) := by decide +kernel
theorem dX9_nest_75 : decode cX9_nest 75 = .ok (.ifCond .eq 14, 3) := by decide +kernel
theorem dX9_nest_78 : decode cX9_nest 78 = .ok (.aload_n 0, 1) := by decide +kernel
theorem dX9_nest_79 : decode cX9_nest 79 = .ok (.iload 4, 2) := by decide +kernel
theorem dX9_nest_81 : decode cX9_nest 81 = .ok (.iload 5, 2) := by decide +kernel
theorem dX9_nest_83 : decode cX9_nest 83 = .ok (.invokevirtual 308, 3) := by decide +kernel
theorem dX9_nest_86 : decode cX9_nest 86 = .ok (.ifCond .ne 6, 3) := by decide +kernel
theorem dX9_nest_89 : decode cX9_nest 89 = .ok (.bipush (-2), 2) := by decide +kernel
theorem dX9_nest_9 : decode cX9_nest 9 = .ok (.invokestatic 249, 3) := by decide +kernel
theorem dX9_nest_91 : decode cX9_nest 91 = .ok (.ireturn, 1) := by decide +kernel
theorem dX9_nest_92 : decode cX9_nest 92 = .ok (.aload_n 0, 1) := by decide +kernel
theorem dX9_nest_93 : decode cX9_nest 93 = .ok (.aload_n 0, 1) := by decide +kernel
theorem dX9_nest_94 : decode cX9_nest 94 = .ok (.getfield 78, 3) := by decide +kernel
theorem dX9_nest_97 : decode cX9_nest 97 = .ok (.iload 4, 2) := by decide +kernel
theorem dX9_nest_99 : decode cX9_nest 99 = .ok (.iaload, 1) := by decide +kernel
theorem dX9_open_0 : decode cX9_open 0 = .ok (.iload_n 1, 1) := by decide +kernel
theorem dX9_open_1 : decode cX9_open 1 = .ok (.invokestatic 249, 3) := by decide +kernel
theorem dX9_open_101 : decode cX9_open 101 = .ok (.iload 6, 2) := by decide +kernel
theorem dX9_open_103 : decode cX9_open 103 = .ok (.if_icmp .ge 37, 3) := by decide +kernel
theorem dX9_open_106 : decode cX9_open 106 = .ok (.aload_n 0, 1) := by decide +kernel
theorem dX9_open_107 : decode cX9_open 107 = .ok (.getfield 75, 3) := by decide +kernel
theorem dX9_open_110 : decode cX9_open 110 = .ok (.bipush 120, 2) := by decide +kernel
theorem dX9_open_112 : decode cX9_open 112 = .ok (.iload 4, 2) := by decide +kernel
theorem dX9_open_114 : decode cX9_open 114 = .ok (.imul, 1) := by decide +kernel
theorem dX9_open_115 : decode cX9_open 115 = .ok (.iload 7, 2) := by decide +kernel
theorem dX9_open_117 : decode cX9_open 117 = .ok (.iadd, 1) := by decide +kernel
theorem dX9_open_118 : decode cX9_open 118 = .ok (.aload_n 0, 1) := by decide +kernel
theorem dX9_open_119 : decode cX9_open 119 = .ok (.getfield 81, 3) := by decide +kernel
theorem dX9_open_12 : decode cX9_open 12 = .ok (.ifCond .eq 36, 3) := by decide +kernel
theorem dX9_open_122 : decode cX9_open 122 = .ok (.aload_n 0, 1) := by decide +kernel
theorem dX9_open_123 : decode cX9_open 123 = .ok (.getfield 90, 3) := by decide +kernel
theorem dX9_open_126 : decode cX9_open 126 = .ok (.iload 5, 2) := by decide +kernel
theorem dX9_open_128 : decode cX9_open 128 = .ok (.iaload, 1) := by decide +kernel
theorem dX9_open_129 : decode cX9_open 129 = .ok (.iload 7, 2) := by decide +kernel
theorem dX9_open_131 : decode cX9_open 131 = .ok (.iadd, 1) := by decide +kernel
theorem dX9_open_132 : decode cX9_open 132 = .ok (.iaload, 1) := by decide +kernel
theorem dX9_open_133 : decode cX9_open 133 = .ok (.iastore, 1) := by decide +kernel
theorem dX9_open_134 : decode cX9_open 134 = .ok (.iinc 7 1, 3) := by decide +kernel
theorem dX9_open_137 : decode cX9_open 137 = .ok (.goto (-38), 3) := by decide +kernel
theorem dX9_open_140 : decode cX9_open 140 = .ok (.aload_n 0, 1) := by decide +kernel
theorem dX9_open_141 : decode cX9_open 141 = .ok (.getfield 78, 3) := by decide +kernel
theorem dX9_open_144 : decode cX9_open 144 = .ok (.iload 4, 2) := by decide +kernel
theorem dX9_open_146 : decode cX9_open 146 = .ok (.iload 6, 2) := by decide +kernel
theorem dX9_open_148 : decode cX9_open 148 = .ok (.iastore, 1) := by decide +kernel
theorem dX9_open_149 : decode cX9_open 149 = .ok (.iload 6, 2) := by decide +kernel
theorem dX9_open_15 : decode cX9_open 15 = .ok (.aload_n 0, 1) := by decide +kernel
theorem dX9_open_151 : decode cX9_open 151 = .ok (.ireturn, 1) := by decide +kernel
theorem dX9_open_16 : decode cX9_open 16 = .ok (.iload_n 2, 1) := by decide +kernel
theorem dX9_open_17 : decode cX9_open 17 = .ok (.invokevirtual 239, 3) := by decide +kernel
theorem dX9_open_20 : decode cX9_open 20 = .ok (.ifCond .eq 28, 3) := by decide +kernel
theorem dX9_open_23 : decode cX9_open 23 = .ok (.aload_n 0, 1) := by decide +kernel
theorem dX9_open_24 : decode cX9_open 24 = .ok (.iload_n 2, 1) := by decide +kernel
theorem dX9_open_25 : decode cX9_open 25 = .ok (.iload_n 3, 1) := by decide +kernel
theorem dX9_open_26 : decode cX9_open 26 = .ok (.invokevirtual 246, 3) := by decide +kernel
theorem dX9_open_29 : decode cX9_open 29 = .ok (.ifCond .eq 19, 3) := by decide +kernel
theorem dX9_open_32 : decode cX9_open 32 = .ok (.aload_n 0, 1) := by decide +kernel
theorem dX9_open_33 : decode cX9_open 33 = .ok (.getfield 13, 3) := by decide +kernel
theorem dX9_open_36 : decode cX9_open 36 = .ok (.bipush 31, 2) := by decide +kernel
theorem dX9_open_38 : decode cX9_open 38 = .ok (.iload_n 2, 1) := by decide +kernel
theorem dX9_open_39 : decode cX9_open 39 = .ok (.imul, 1) := by decide +kernel
theorem dX9_open_4 : decode cX9_open 4 = .ok (.ifCond .eq 44, 3) := by decide +kernel
theorem dX9_open_40 : decode cX9_open 40 = .ok (.iload_n 3, 1) := by decide +kernel
theorem dX9_open_41 : decode cX9_open 41 = .ok (.iadd, 1) := by decide +kernel
theorem dX9_open_42 : decode cX9_open 42 = .ok (.iaload, 1) := by decide +kernel
theorem dX9_open_43 : decode cX9_open 43 = .ok (.bipush 6, 2) := by decide +kernel
theorem dX9_open_45 : decode cX9_open 45 = .ok (.if_icmp .eq 5, 3) := by decide +kernel
theorem dX9_open_48 : decode cX9_open 48 = .ok (.iconst (-1), 1) := by decide +kernel
theorem dX9_open_49 : decode cX9_open 49 = .ok (.ireturn, 1) := by decide +kernel
theorem dX9_open_50 : decode cX9_open 50 = .ok (.aload_n 0, 1) := by decide +kernel
theorem dX9_open_51 : decode cX9_open 51 = .ok (.iload_n 1, 1) := by decide +kernel
theorem dX9_open_52 : decode cX9_open 52 = .ok (.iload_n 2, 1) := by decide +kernel
theorem dX9_open_53 : decode cX9_open 53 = .ok (.invokevirtual 308, 3) := by decide +kernel
theorem dX9_open_56 : decode cX9_open 56 = .ok (.ifCond .ne 6, 3) := by decide +kernel
theorem dX9_open_59 : decode cX9_open 59 = .ok (.bipush (-2), 2) := by decide +kernel
theorem dX9_open_61 : decode cX9_open 61 = .ok (.ireturn, 1) := by decide +kernel
theorem dX9_open_62 : decode cX9_open 62 = .ok (.aload_n 0, 1) := by decide +kernel
theorem dX9_open_63 : decode cX9_open 63 = .ok (.iload_n 3, 1) := by decide +kernel
theorem dX9_open_64 : decode cX9_open 64 = .ok (.invokevirtual 313, 3) := by decide +kernel
theorem dX9_open_67 : decode cX9_open 67 = .ok (.istore 5, 2) := by decide +kernel
theorem dX9_open_69 : decode cX9_open 69 = .ok (.iload 5, 2) := by decide +kernel
theorem dX9_open_7 : decode cX9_open 7 = .ok (.iload 4, 2) := by decide +kernel
theorem dX9_open_71 : decode cX9_open 71 = .ok (.iconst (-1), 1) := by decide +kernel
theorem dX9_open_72 : decode cX9_open 72 = .ok (.if_icmp .ne 7, 3) := by decide +kernel
theorem dX9_open_75 : decode cX9_open 75 = .ok (.iconst 0, 1) := by decide +kernel
theorem dX9_open_76 : decode cX9_open 76 = .ok (.goto 18, 3) := by decide +kernel
theorem dX9_open_79 : decode cX9_open 79 = .ok (.aload_n 0, 1) := by decide +kernel
theorem dX9_open_80 : decode cX9_open 80 = .ok (.getfield 93, 3) := by decide +kernel
theorem dX9_open_83 : decode cX9_open 83 = .ok (.iload 5, 2) := by decide +kernel
theorem dX9_open_85 : decode cX9_open 85 = .ok (.iaload, 1) := by decide +kernel
theorem dX9_open_86 : decode cX9_open 86 = .ok (.aload_n 0, 1) := by decide +kernel
theorem dX9_open_87 : decode cX9_open 87 = .ok (.getfield 90, 3) := by decide +kernel
theorem dX9_open_9 : decode cX9_open 9 = .ok (.invokestatic 249, 3) := by decide +kernel
theorem dX9_open_90 : decode cX9_open 90 = .ok (.iload 5, 2) := by decide +kernel
theorem dX9_open_92 : decode cX9_open 92 = .ok (.iaload, 1) := by decide +kernel
theorem dX9_open_93 : decode cX9_open 93 = .ok (.isub, 1) := by decide +kernel
theorem dX9_open_94 : decode cX9_open 94 = .ok (.istore 6, 2) := by decide +kernel
theorem dX9_open_96 : decode cX9_open 96 = .ok (.iconst 0, 1) := by decide +kernel
theorem dX9_open_97 : decode cX9_open 97 = .ok (.istore 7, 2) := by decide +kernel
theorem dX9_open_99 : decode cX9_open 99 = .ok (.iload 7, 2) := by decide +kernel
theorem dX9_say_0 : decode cX9_say 0 = .ok (.aload_n 0, 1) := by decide +kernel
theorem dX9_say_1 : decode cX9_say 1 = .ok (.getfield 132, 3) := by decide +kernel
theorem dX9_say_100 : decode cX9_say 100 = .ok (.iload 4, 2) := by decide +kernel
theorem dX9_say_102 : decode cX9_say 102 = .ok (.i2l, 1) := by decide +kernel
theorem dX9_say_103 : decode cX9_say 103 = .ok (.invokevirtual 323, 3) := by decide +kernel
theorem dX9_say_106 : decode cX9_say 106 = .ok (.iconst 0, 1) := by decide +kernel
theorem dX9_say_107 : decode cX9_say 107 = .ok (.istore 5, 2) := by decide +kernel
theorem dX9_say_109 : decode cX9_say 109 = .ok (.iload 5, 2) := by decide +kernel
theorem dX9_say_11 : decode cX9_say 11 = .ok (.iload_n 1, 1) := by decide +kernel
theorem dX9_say_111 : decode cX9_say 111 = .ok (.iload 4, 2) := by decide +kernel
theorem dX9_say_113 : decode cX9_say 113 = .ok (.if_icmp .ge 21, 3) := by decide +kernel
theorem dX9_say_116 : decode cX9_say 116 = .ok (.aload_n 0, 1) := by decide +kernel
theorem dX9_say_117 : decode cX9_say 117 = .ok (.iconst 0, 1) := by decide +kernel
theorem dX9_say_118 : decode cX9_say 118 = .ok (.aload_n 0, 1) := by decide +kernel
theorem dX9_say_119 : decode cX9_say 119 = .ok (.getfield 39, 3) := by decide +kernel
theorem dX9_say_12 : decode cX9_say 12 = .ok (.invokestatic 249, 3) := by decide +kernel
theorem dX9_say_122 : decode cX9_say 122 = .ok (.iload 5, 2) := by decide +kernel
theorem dX9_say_124 : decode cX9_say 124 = .ok (.iaload, 1) := by decide +kernel
theorem dX9_say_125 : decode cX9_say 125 = .ok (.invokevirtual 320, 3) := by decide +kernel
theorem dX9_say_128 : decode cX9_say 128 = .ok (.iinc 5 1, 3) := by decide +kernel
theorem dX9_say_131 : decode cX9_say 131 = .ok (.goto (-22), 3) := by decide +kernel
theorem dX9_say_134 : decode cX9_say 134 = .ok (.aload_n 0, 1) := by decide +kernel
theorem dX9_say_135 : decode cX9_say 135 = .ok (.invokevirtual 340, 3) := by decide +kernel
theorem dX9_say_138 : decode cX9_say 138 = .ok (.aload_n 0, 1) := by decide +kernel
theorem dX9_say_139 : decode cX9_say 139 = .ok (.iload_n 1, 1) := by decide +kernel
theorem dX9_say_140 : decode cX9_say 140 = .ok (.iload_n 2, 1) := by decide +kernel
theorem dX9_say_141 : decode cX9_say 141 = .ok (.iload_n 3, 1) := by decide +kernel
theorem dX9_say_142 : decode cX9_say 142 = .ok (.invokevirtual 343, 3) := by decide +kernel
theorem dX9_say_145 : decode cX9_say 145 = .ok (.ireturn, 1) := by decide +kernel
theorem dX9_say_15 : decode cX9_say 15 = .ok (.ifCond .eq 35, 3) := by decide +kernel
theorem dX9_say_18 : decode cX9_say 18 = .ok (.aload_n 0, 1) := by decide +kernel
theorem dX9_say_19 : decode cX9_say 19 = .ok (.iload_n 2, 1) := by decide +kernel
theorem dX9_say_20 : decode cX9_say 20 = .ok (.invokevirtual 239, 3) := by decide +kernel
theorem dX9_say_23 : decode cX9_say 23 = .ok (.ifCond .eq 27, 3) := by decide +kernel
theorem dX9_say_26 : decode cX9_say 26 = .ok (.aload_n 0, 1) := by decide +kernel
theorem dX9_say_27 : decode cX9_say 27 = .ok (.iload_n 2, 1) := by decide +kernel
theorem dX9_say_28 : decode cX9_say 28 = .ok (.iload_n 3, 1) := by decide +kernel
theorem dX9_say_29 : decode cX9_say 29 = .ok (.invokevirtual 246, 3) := by decide +kernel
theorem dX9_say_32 : decode cX9_say 32 = .ok (.ifCond .eq 18, 3) := by decide +kernel
theorem dX9_say_35 : decode cX9_say 35 = .ok (.aload_n 0, 1) := by decide +kernel
theorem dX9_say_36 : decode cX9_say 36 = .ok (.getfield 13, 3) := by decide +kernel
theorem dX9_say_39 : decode cX9_say 39 = .ok (.bipush 31, 2) := by decide +kernel
theorem dX9_say_4 : decode cX9_say 4 = .ok (.istore 4, 2) := by decide +kernel
theorem dX9_say_41 : decode cX9_say 41 = .ok (.iload_n 2, 1) := by decide +kernel
theorem dX9_say_42 : decode cX9_say 42 = .ok (.imul, 1) := by decide +kernel
theorem dX9_say_43 : decode cX9_say 43 = .ok (.iload_n 3, 1) := by decide +kernel
theorem dX9_say_44 : decode cX9_say 44 = .ok (.iadd, 1) := by decide +kernel
theorem dX9_say_45 : decode cX9_say 45 = .ok (.iaload, 1) := by decide +kernel
theorem dX9_say_46 : decode cX9_say 46 = .ok (.iconst 5, 1) := by decide +kernel
theorem dX9_say_47 : decode cX9_say 47 = .ok (.if_icmp .eq 5, 3) := by decide +kernel
theorem dX9_say_50 : decode cX9_say 50 = .ok (.iconst (-1), 1) := by decide +kernel
theorem dX9_say_51 : decode cX9_say 51 = .ok (.ireturn, 1) := by decide +kernel
theorem dX9_say_52 : decode cX9_say 52 = .ok (.aload_n 0, 1) := by decide +kernel
theorem dX9_say_53 : decode cX9_say 53 = .ok (.iload_n 1, 1) := by decide +kernel
theorem dX9_say_54 : decode cX9_say 54 = .ok (.iload_n 2, 1) := by decide +kernel
theorem dX9_say_55 : decode cX9_say 55 = .ok (.invokevirtual 308, 3) := by decide +kernel
theorem dX9_say_58 : decode cX9_say 58 = .ok (.ifCond .ne 6, 3) := by decide +kernel
theorem dX9_say_6 : decode cX9_say 6 = .ok (.aload_n 0, 1) := by decide +kernel
theorem dX9_say_61 : decode cX9_say 61 = .ok (.bipush (-2), 2) := by decide +kernel
theorem dX9_say_63 : decode cX9_say 63 = .ok (.ireturn, 1) := by decide +kernel
theorem dX9_say_64 : decode cX9_say 64 = .ok (.aload_n 0, 1) := by decide +kernel
theorem dX9_say_65 : decode cX9_say 65 = .ok (.getfield 39, 3) := by decide +kernel
theorem dX9_say_68 : decode cX9_say 68 = .ok (.iconst 0, 1) := by decide +kernel
theorem dX9_say_69 : decode cX9_say 69 = .ok (.iload 4, 2) := by decide +kernel
theorem dX9_say_7 : decode cX9_say 7 = .ok (.iconst 0, 1) := by decide +kernel
theorem dX9_say_71 : decode cX9_say 71 = .ok (.invokestatic 281, 3) := by decide +kernel
theorem dX9_say_74 : decode cX9_say 74 = .ok (.ifCond .ne 6, 3) := by decide +kernel
theorem dX9_say_77 : decode cX9_say 77 = .ok (.bipush (-3), 2) := by decide +kernel
theorem dX9_say_79 : decode cX9_say 79 = .ok (.ireturn, 1) := by decide +kernel
theorem dX9_say_8 : decode cX9_say 8 = .ok (.putfield 132, 3) := by decide +kernel
theorem dX9_say_80 : decode cX9_say 80 = .ok (.aload_n 0, 1) := by decide +kernel
theorem dX9_say_81 : decode cX9_say 81 = .ok (.getfield 117, 3) := by decide +kernel
theorem dX9_say_84 : decode cX9_say 84 = .ok (.iconst 0, 1) := by decide +kernel
theorem dX9_say_85 : decode cX9_say 85 = .ok (.iconst 0, 1) := by decide +kernel
theorem dX9_say_86 : decode cX9_say 86 = .ok (.iastore, 1) := by decide +kernel
theorem dX9_say_87 : decode cX9_say 87 = .ok (.aload_n 0, 1) := by decide +kernel
theorem dX9_say_88 : decode cX9_say 88 = .ok (.iconst 0, 1) := by decide +kernel
theorem dX9_say_89 : decode cX9_say 89 = .ok (.iconst 2, 1) := by decide +kernel
theorem dX9_say_90 : decode cX9_say 90 = .ok (.iload_n 3, 1) := by decide +kernel
theorem dX9_say_91 : decode cX9_say 91 = .ok (.imul, 1) := by decide +kernel
theorem dX9_say_92 : decode cX9_say 92 = .ok (.iconst 1, 1) := by decide +kernel
theorem dX9_say_93 : decode cX9_say 93 = .ok (.iadd, 1) := by decide +kernel
theorem dX9_say_94 : decode cX9_say 94 = .ok (.i2l, 1) := by decide +kernel
theorem dX9_say_95 : decode cX9_say 95 = .ok (.invokevirtual 323, 3) := by decide +kernel
theorem dX9_say_98 : decode cX9_say 98 = .ok (.aload_n 0, 1) := by decide +kernel
theorem dX9_say_99 : decode cX9_say 99 = .ok (.iconst 0, 1) := by decide +kernel
theorem dX9_set_0 : decode cX9_set 0 = .ok (.iload_n 1, 1) := by decide +kernel
theorem dX9_set_1 : decode cX9_set 1 = .ok (.invokestatic 249, 3) := by decide +kernel
theorem dX9_set_101 : decode cX9_set 101 = .ok (.aload_n 0, 1) := by decide +kernel
theorem dX9_set_102 : decode cX9_set 102 = .ok (.invokevirtual 340, 3) := by decide +kernel
theorem dX9_set_105 : decode cX9_set 105 = .ok (.aload_n 0, 1) := by decide +kernel
theorem dX9_set_106 : decode cX9_set 106 = .ok (.iload_n 1, 1) := by decide +kernel
theorem dX9_set_107 : decode cX9_set 107 = .ok (.iload_n 2, 1) := by decide +kernel
theorem dX9_set_108 : decode cX9_set 108 = .ok (.iload_n 3, 1) := by decide +kernel
theorem dX9_set_109 : decode cX9_set 109 = .ok (.invokevirtual 343, 3) := by decide +kernel
theorem dX9_set_112 : decode cX9_set 112 = .ok (.ireturn, 1) := by decide +kernel
theorem dX9_set_12 : decode cX9_set 12 = .ok (.ifCond .eq 27, 3) := by decide +kernel
theorem dX9_set_15 : decode cX9_set 15 = .ok (.aload_n 0, 1) := by decide +kernel
theorem dX9_set_16 : decode cX9_set 16 = .ok (.iload_n 2, 1) := by decide +kernel
theorem dX9_set_17 : decode cX9_set 17 = .ok (.iload_n 3, 1) := by decide +kernel
theorem dX9_set_18 : decode cX9_set 18 = .ok (.invokevirtual 246, 3) := by decide +kernel
theorem dX9_set_21 : decode cX9_set 21 = .ok (.ifCond .eq 18, 3) := by decide +kernel
theorem dX9_set_24 : decode cX9_set 24 = .ok (.aload_n 0, 1) := by decide +kernel
theorem dX9_set_25 : decode cX9_set 25 = .ok (.getfield 13, 3) := by decide +kernel
theorem dX9_set_28 : decode cX9_set 28 = .ok (.bipush 31, 2) := by decide +kernel
theorem dX9_set_30 : decode cX9_set 30 = .ok (.iload_n 2, 1) := by decide +kernel
theorem dX9_set_31 : decode cX9_set 31 = .ok (.imul, 1) := by decide +kernel
theorem dX9_set_32 : decode cX9_set 32 = .ok (.iload_n 3, 1) := by decide +kernel
theorem dX9_set_33 : decode cX9_set 33 = .ok (.iadd, 1) := by decide +kernel
theorem dX9_set_34 : decode cX9_set 34 = .ok (.iaload, 1) := by decide +kernel
theorem dX9_set_35 : decode cX9_set 35 = .ok (.iconst 4, 1) := by decide +kernel
theorem dX9_set_36 : decode cX9_set 36 = .ok (.if_icmp .le 5, 3) := by decide +kernel
theorem dX9_set_39 : decode cX9_set 39 = .ok (.iconst (-1), 1) := by decide +kernel
theorem dX9_set_4 : decode cX9_set 4 = .ok (.ifCond .eq 35, 3) := by decide +kernel
theorem dX9_set_40 : decode cX9_set 40 = .ok (.ireturn, 1) := by decide +kernel
theorem dX9_set_41 : decode cX9_set 41 = .ok (.aload_n 0, 1) := by decide +kernel
theorem dX9_set_42 : decode cX9_set 42 = .ok (.iload_n 1, 1) := by decide +kernel
theorem dX9_set_43 : decode cX9_set 43 = .ok (.iload_n 2, 1) := by decide +kernel
theorem dX9_set_44 : decode cX9_set 44 = .ok (.invokevirtual 308, 3) := by decide +kernel
theorem dX9_set_47 : decode cX9_set 47 = .ok (.ifCond .ne 6, 3) := by decide +kernel
theorem dX9_set_50 : decode cX9_set 50 = .ok (.bipush (-2), 2) := by decide +kernel
theorem dX9_set_52 : decode cX9_set 52 = .ok (.ireturn, 1) := by decide +kernel
theorem dX9_set_53 : decode cX9_set 53 = .ok (.lload 4, 2) := by decide +kernel
theorem dX9_set_55 : decode cX9_set 55 = .ok (.aload_n 0, 1) := by decide +kernel
theorem dX9_set_56 : decode cX9_set 56 = .ok (.getfield 13, 3) := by decide +kernel
theorem dX9_set_59 : decode cX9_set 59 = .ok (.bipush 31, 2) := by decide +kernel
theorem dX9_set_61 : decode cX9_set 61 = .ok (.iload_n 2, 1) := by decide +kernel
theorem dX9_set_62 : decode cX9_set 62 = .ok (.imul, 1) := by decide +kernel
theorem dX9_set_63 : decode cX9_set 63 = .ok (.iload_n 3, 1) := by decide +kernel
theorem dX9_set_64 : decode cX9_set 64 = .ok (.iadd, 1) := by decide +kernel
theorem dX9_set_65 : decode cX9_set 65 = .ok (.iaload, 1) := by decide +kernel
theorem dX9_set_66 : decode cX9_set 66 = .ok (.invokestatic 229, 3) := by decide +kernel
theorem dX9_set_69 : decode cX9_set 69 = .ok (.ifCond .ne 6, 3) := by decide +kernel
theorem dX9_set_7 : decode cX9_set 7 = .ok (.aload_n 0, 1) := by decide +kernel
theorem dX9_set_72 : decode cX9_set 72 = .ok (.bipush (-3), 2) := by decide +kernel
theorem dX9_set_74 : decode cX9_set 74 = .ok (.ireturn, 1) := by decide +kernel
theorem dX9_set_75 : decode cX9_set 75 = .ok (.aload_n 0, 1) := by decide +kernel
theorem dX9_set_76 : decode cX9_set 76 = .ok (.getfield 117, 3) := by decide +kernel
theorem dX9_set_79 : decode cX9_set 79 = .ok (.iconst 0, 1) := by decide +kernel
theorem dX9_set_8 : decode cX9_set 8 = .ok (.iload_n 2, 1) := by decide +kernel
theorem dX9_set_80 : decode cX9_set 80 = .ok (.iconst 0, 1) := by decide +kernel
theorem dX9_set_81 : decode cX9_set 81 = .ok (.iastore, 1) := by decide +kernel
theorem dX9_set_82 : decode cX9_set 82 = .ok (.aload_n 0, 1) := by decide +kernel
theorem dX9_set_83 : decode cX9_set 83 = .ok (.iconst 0, 1) := by decide +kernel
theorem dX9_set_84 : decode cX9_set 84 = .ok (.iconst 2, 1) := by decide +kernel
theorem dX9_set_85 : decode cX9_set 85 = .ok (.iload_n 3, 1) := by decide +kernel
theorem dX9_set_86 : decode cX9_set 86 = .ok (.imul, 1) := by decide +kernel
theorem dX9_set_87 : decode cX9_set 87 = .ok (.i2l, 1) := by decide +kernel
theorem dX9_set_88 : decode cX9_set 88 = .ok (.invokevirtual 323, 3) := by decide +kernel
theorem dX9_set_9 : decode cX9_set 9 = .ok (.invokevirtual 239, 3) := by decide +kernel
theorem dX9_set_91 : decode cX9_set 91 = .ok (.aload_n 0, 1) := by decide +kernel
theorem dX9_set_92 : decode cX9_set 92 = .ok (.iconst 0, 1) := by decide +kernel
theorem dX9_set_93 : decode cX9_set 93 = .ok (.lload 4, 2) := by decide +kernel
theorem dX9_set_95 : decode cX9_set 95 = .ok (.invokestatic 327, 3) := by decide +kernel
theorem dX9_set_98 : decode cX9_set 98 = .ok (.invokevirtual 323, 3) := by decide +kernel
noncomputable def x9_set (p0 : Int32) (p1 : Int32) (p2 : Int32) (p3 : Int64) (st : RS) : Option (Int32 × RS) := bnd (x9_isRecord p0 st) (fun r_3 st_1 => pif (r_3 = 0) (some (((-1) : Int32), st_1)) (bnd (x9_isMake p1 st_1) (fun r_7 st_5 => pif (r_7 = 0) (some (((-1) : Int32), st_5)) (bnd (x9_has p1 p2 st_5) (fun r_11 st_9 => pif (r_11 = 0) (some (((-1) : Int32), st_9)) (gd (vp_in ((31 * p1) + p2) 248) (pif ((gF st_9 1 ((31 * p1) + p2).toNatClampNeg) ≤ 4) (bnd (x9_isRead p0 p1 st_9) (fun r_17 st_15 => pif (r_17 = 0) (some (((-2) : Int32), st_15)) (gd (vp_in ((31 * p1) + p2) 248) (bnd (x9_isOf p3 (gF st_15 1 ((31 * p1) + p2).toNatClampNeg) st_15) (fun r_22 st_20 => pif (r_22 = 0) (some (((-3) : Int32), st_20)) (gd (vp_in (0 : Int32) 9) (nam (sF st_20 53 (upd (gF st_20 53) (0 : Int32).toNatClampNeg 0)) (fun st_25 => bnv (x9_laysVarint 0 ((2 * p2).toInt64) st_25) (fun st_26 => bnd (x9_folded p3 st_26) (fun r_31 st_29 => bnv (x9_laysVarint 0 r_31 st_29) (fun st_32 => bnv (x9_keepsFresh st_32) (fun st_35 => bnd (x9_puts p0 p1 p2 st_35) (fun r_40 st_38 => some (r_40, st_38)))))))))))))) (some (((-1) : Int32), st_9)))))))))
def wq_X9_set : List Cond := .code yX9_set cX9_set 6 (some .int) :: (([.fieldLink RX9 13 "RecordBenchModel" "kind" "[I", .fieldLink RX9 117 "RecordBenchModel" "laidLong" "[I", .methodLink RX9 249 yX9_isRecord, .static yX9_isRecord, .initialized RX9, .methodLink RX9 239 yX9_isMake, .instanceMethod yX9_isMake, .selects RX9 yX9_isMake yX9_isMake, .methodLink RX9 246 yX9_has, .instanceMethod yX9_has, .selects RX9 yX9_has yX9_has, .methodLink RX9 308 yX9_isRead, .instanceMethod yX9_isRead, .selects RX9 yX9_isRead yX9_isRead, .methodLink RX9 229 yX9_isOf, .static yX9_isOf, .methodLink RX9 323 yX9_laysVarint, .instanceMethod yX9_laysVarint, .selects RX9 yX9_laysVarint yX9_laysVarint, .methodLink RX9 327 yX9_folded, .static yX9_folded, .methodLink RX9 340 yX9_keepsFresh, .instanceMethod yX9_keepsFresh, .selects RX9 yX9_keepsFresh yX9_keepsFresh, .methodLink RX9 343 yX9_puts, .instanceMethod yX9_puts, .selects RX9 yX9_puts yX9_puts, .code yX9_isRecord cX9_isRecord 1 (some .boolean), .code yX9_isMake cX9_isMake 2 (some .boolean), .fieldLink RX9 7 "RecordBenchModel" "told" "[Z", .code yX9_has cX9_has 3 (some .boolean), .fieldLink RX9 36 "RecordBenchModel" "isThere" "[Z", .code yX9_isRead cX9_isRead 3 (some .boolean), .fieldLink RX9 78 "RecordBenchModel" "long0" "[I", .methodLink RX9 302 yX9_loads, .instanceMethod yX9_loads, .selects RX9 yX9_loads yX9_loads, .methodLink RX9 305 yX9_reads, .instanceMethod yX9_reads, .selects RX9 yX9_reads yX9_reads, .code yX9_loads cX9_loads 3 none, .fieldLink RX9 81 "RecordBenchModel" "row" "[I", .fieldLink RX9 75 "RecordBenchModel" "bytes" "[I", .code yX9_reads cX9_reads 7 (some .boolean), .fieldLink RX9 285 "RecordBenchModel" "readFault" "I", .fieldLink RX9 288 "RecordBenchModel" "readPlace" "I", .fieldLink RX9 291 "RecordBenchModel" "pieces" "I", .fieldLink RX9 102 "RecordBenchModel" "pileAt" "[I", .fieldLink RX9 105 "RecordBenchModel" "pileEnd" "[I", .fieldLink RX9 99 "RecordBenchModel" "pileMake" "[I", .fieldLink RX9 108 "RecordBenchModel" "pileLast" "[I", .fieldLink RX9 111 "RecordBenchModel" "pileGroups" "[I", .fieldLink RX9 260 "RecordBenchModel" "pieceFault" "I", .fieldLink RX9 84 "RecordBenchModel" "pieceNumber" "[I", .fieldLink RX9 263 "RecordBenchModel" "number" "I", .fieldLink RX9 87 "RecordBenchModel" "pieceBegin" "[I", .fieldLink RX9 90 "RecordBenchModel" "pieceFrom" "[I", .fieldLink RX9 275 "RecordBenchModel" "from" "I", .fieldLink RX9 93 "RecordBenchModel" "pieceTo" "[I", .fieldLink RX9 278 "RecordBenchModel" "to" "I", .fieldLink RX9 96 "RecordBenchModel" "pieceValue" "[J", .fieldLink RX9 273 "RecordBenchModel" "value" "J", .fieldLink RX9 17 "RecordBenchModel" "group" "[I", .fieldLink RX9 20 "RecordBenchModel" "inner" "[I", .methodLink RX9 294 yX9_opens, .instanceMethod yX9_opens, .selects RX9 yX9_opens yX9_opens, .methodLink RX9 298 yX9_piece, .instanceMethod yX9_piece, .selects RX9 yX9_piece yX9_piece, .code yX9_opens cX9_opens 5 none, .code yX9_piece cX9_piece 14 none, .fieldLink RX9 252 "RecordBenchModel" "varint" "J", .fieldLink RX9 267 "RecordBenchModel" "isLong" "Z", .constantLong RX9 271 (30), .fieldLink RX9 257 "RecordBenchModel" "varintEnd" "I", .methodLink RX9 281 yX9_isText, .static yX9_isText, .methodLink RX9 265 yX9_varint, .instanceMethod yX9_varint, .selects RX9 yX9_varint yX9_varint, .code yX9_isText cX9_isText 4 (some .boolean), .code yX9_isOf cX9_isOf 3 (some .boolean), .constantLong RX9 219 (-2147483648), .constantLong RX9 221 (2147483647), .constantLong RX9 215 (-128), .constantLong RX9 217 (127), .code yX9_varint cX9_varint 6 (some .boolean), .constantLong RX9 255 (128), .code yX9_laysVarint cX9_laysVarint 6 none, .methodLink RX9 320 yX9_lays, .instanceMethod yX9_lays, .selects RX9 yX9_lays yX9_lays, .code yX9_lays cX9_lays 3 none, .fieldLink RX9 114 "RecordBenchModel" "laid" "[I", .code yX9_folded cX9_folded 2 (some .long), .code yX9_keepsFresh cX9_keepsFresh 2 none, .fieldLink RX9 337 "RecordBenchModel" "freshLong" "I", .fieldLink RX9 123 "RecordBenchModel" "fresh" "[I", .code yX9_puts cX9_puts 11 (some .int), .methodLink RX9 334 yX9_comes, .instanceMethod yX9_comes, .selects RX9 yX9_comes yX9_comes, .methodLink RX9 331 yX9_writes, .instanceMethod yX9_writes, .selects RX9 yX9_writes yX9_writes, .code yX9_comes cX9_comes 3 none, .code yX9_writes cX9_writes 9 none, .fieldLink RX9 120 "RecordBenchModel" "levelKey" "[I"] : List Cond) ++ wsX90)
set_option maxRecDepth 20000 in
theorem gq_X9_set_X9_isRecord_249 : GoodIn wq_X9_set (wsS RX9 249 yX9_isRecord wq_X9_isRecord) := goodIn_app (goodIn_r _ [3, 4, 5] rfl rfl) (goodIn_r _ [28] rfl rfl)
theorem gs_wq_X9_set_wsX90 : GoodIn wq_X9_set wsX90 := fun w h => ⟨List.mem_cons_of_mem _ (List.mem_append_right _ h), (gt_wsX90 w h).2⟩
set_option maxRecDepth 20000 in
theorem gq_X9_set_X9_isMake_239 : GoodIn wq_X9_set (wsV RX9 239 RX9 yX9_isMake wq_X9_isMake) := goodIn_app (goodIn_r _ [6, 7, 8, 5] rfl rfl) (goodIn_ca (goodIn_r _ [29, 30] rfl rfl) gs_wq_X9_set_wsX90)
set_option maxRecDepth 20000 in
theorem gq_X9_set_X9_has_246 : GoodIn wq_X9_set (wsV RX9 246 RX9 yX9_has wq_X9_has) := goodIn_app (goodIn_r _ [9, 10, 11, 5] rfl rfl) (goodIn_ca (goodIn_r _ [31, 32, 1] rfl rfl) gs_wq_X9_set_wsX90)
set_option maxRecDepth 20000 in
theorem gq_X9_set_X9_isRead_308 : GoodIn wq_X9_set (wsV RX9 308 RX9 yX9_isRead wq_X9_isRead) := goodIn_app (goodIn_r _ [12, 13, 14, 5] rfl rfl) (goodIn_ca (goodIn_r _ [33, 34, 35, 36, 37, 5, 38, 39, 40, 41, 42, 43, 44, 45, 46, 47, 48, 49, 50, 51, 52, 53, 54, 55, 56, 57, 58, 59, 60, 61, 62, 63, 1, 64, 65, 66, 67, 9, 10, 11, 68, 69, 70, 71, 31, 32, 72, 73, 74, 75, 76, 77, 78, 15, 16, 79, 80, 81, 82, 83, 84, 85, 86, 87, 88, 89] rfl rfl) gs_wq_X9_set_wsX90)
set_option maxRecDepth 20000 in
theorem gq_X9_set_X9_isOf_229 : GoodIn wq_X9_set (wsS RX9 229 yX9_isOf wq_X9_isOf) := goodIn_app (goodIn_r _ [15, 16, 5] rfl rfl) (goodIn_r _ [83, 84, 85, 86, 87] rfl rfl)
set_option maxRecDepth 20000 in
theorem gq_X9_set_X9_laysVarint_323 : GoodIn wq_X9_set (wsV RX9 323 RX9 yX9_laysVarint wq_X9_laysVarint) := goodIn_app (goodIn_r _ [17, 18, 19, 5] rfl rfl) (goodIn_ca (goodIn_r _ [90, 87, 91, 92, 93, 5, 94, 95, 2] rfl rfl) gs_wq_X9_set_wsX90)
set_option maxRecDepth 20000 in
theorem gq_X9_set_X9_folded_327 : GoodIn wq_X9_set (wsS RX9 327 yX9_folded wq_X9_folded) := goodIn_app (goodIn_r _ [20, 21, 5] rfl rfl) (goodIn_r _ [96] rfl rfl)
set_option maxRecDepth 20000 in
theorem gq_X9_set_X9_keepsFresh_340 : GoodIn wq_X9_set (wsV RX9 340 RX9 yX9_keepsFresh wq_X9_keepsFresh) := goodIn_app (goodIn_r _ [22, 23, 24, 5] rfl rfl) (goodIn_ca (goodIn_r _ [97, 2, 98, 99, 95] rfl rfl) gs_wq_X9_set_wsX90)
set_option maxRecDepth 20000 in
theorem gq_X9_set_X9_puts_343 : GoodIn wq_X9_set (wsV RX9 343 RX9 yX9_puts wq_X9_puts) := goodIn_app (goodIn_r _ [25, 26, 27, 5] rfl rfl) (goodIn_ca (goodIn_r _ [100, 34, 2, 63, 42, 95, 60, 55, 98, 99, 101, 102, 103, 5, 91, 92, 93, 68, 69, 70, 9, 10, 11, 35, 36, 37, 104, 105, 106, 107, 43, 94, 72, 53, 73, 74, 75, 76, 62, 58, 1, 77, 78, 15, 16, 79, 80, 81, 82, 83, 84, 85, 86, 87, 31, 32, 88, 89, 41, 108, 48, 49, 50, 64, 109, 17, 18, 19, 20, 21, 65, 66, 67, 90, 96, 71, 51, 52] rfl rfl) gs_wq_X9_set_wsX90)
set_option maxHeartbeats 4000000 in
set_option maxRecDepth 100000 in
theorem c_X9_set (l : Launch) (dC : Nat → ClassId) (dI : Nat → Nat → Nat) (h0 : Nat) (ar : Nat → Nat) (ca : Nat → ClassId) (p0 : Int32) (p1 : Int32) (p2 : Int32) (p3 : Int64) (st st' : RS) (r : Int32) (hf : x9_set p0 p1 p2 p3 st = some (r, st')) (sz : Nat) : Met l yX9_set wq_X9_set ({ frames := 4, cells := 0, slots := 0, locals := 132 }) (va_Pc [.ref h0, .int p0, .int p1, .int p2, .long p3] (Pr (dC, dI) (rT ca) [] (RW h0 ar ca st) sz)) (va_Qi (fun r' (_ : Unit) => r' = r) (Bq (dC, dI) (fun _ => RW h0 ar ca st') (fun _ => []) (va_A (RW h0 ar ca st) sz)) (va_A (RW h0 ar ca st) sz)) 0 0 (va_A (RW h0 ar ca st) sz) := by
  refine Met.ofW (cc := cX9_set) (maxL := 6) (ret := (some .int)) (by decide) rfl ?_
  intro p e s m args below meth c s₁ B hml hv
  obtain ⟨rfl, hsz, hP, hK, hD0, hN, hZ, hR⟩ := hv
  have hx := B.exec
  have hb := B.bytes
  have hr := B.returns
  have hts := atoms_spec (ws := wq_X9_set) B.pre
  have hown : s.vm.findClass RX9 = some m.cls := findClass_of_methodNamed B.named
  have iRX9 : ∀ w ∈ u_ws RX9 TX9 60, w ∈ wq_X9_set := fun w h => List.mem_cons_of_mem _ (List.mem_append_right _ h)
  subst hsz
  have hp : Rp (dC, dI) h0 ar ca (va_A (RW h0 ar ca st) s.heap.size) s.heap st s.heap [] := ⟨hP, hD0.self, va_S.rf⟩
  generalize hAe : va_A (RW h0 ar ca st) s.heap.size = A at hp hZ ⊢
  have hA : ∀ q : Nat, s.heap.size ≤ q → A q := fun q h => by rw [← hAe]; exact Or.inr h
  have hl := lv_entry ([.ref h0, .int p0, .int p1, .int p2, .long p3]) (n := 6) (Nat.le_of_ble_eq_true rfl)
  rw [lg_entry_eq]
  generalize (lg_sl ([.ref h0, .int p0, .int p1, .int p2, .long p3]) ++ List.replicate (6 - (lg_sl ([.ref h0, .int p0, .int p1, .int p2, .long p3])).length) Slot.unset).toArray = ls at hl ⊢
  have hl : lv_has ls 6 [(0, .ref h0), (1, .int p0), (2, .int p1), (3, .int p2), (4, .long p3)] := hl
  unfold x9_set at hf
  refine lv_iload_n hx hb dX9_set_0 rfl (lv_at hl 1 rfl) ?_
  obtain ⟨r_3, st_1, hc_2, hf⟩ := bnd_some hf
  refine r_ci hp hA (va_runS (As := [.int p0]) (rest := []) ⟨hx, hb, hml, hown, hts⟩ (c_X9_isRecord l dC dI h0 ar ca p0 _ _ _ hc_2 _) (cwS 1 hts gq_X9_set_X9_isRecord_249 rfl rfl rfl (by decide +kernel) ⟨Nat.le_of_ble_eq_true rfl, Nat.le_of_ble_eq_true rfl⟩) ⟨Pr.blind _, r_pre hp hK hN hZ hA⟩ rfl rfl hl.1 rfl (lv_room (Nat.le_of_ble_eq_true rfl)) dX9_set_1 ⟨Nat.le_of_ble_eq_true rfl, Nat.le_of_ble_eq_true rfl⟩) (fun H locs hp => ?_)
  refine lv_if_eq (tgt := 39) hx hb dX9_set_4 (by decide) (fun c_4 => ?_) (fun c_4 => ?_)
  · have hf := pif_t c_4 hf
    refine lv_iconst (v := (-1)) hx hb dX9_set_39 (by decide) ?_
    obtain ⟨e1, e2⟩ := pr_some hf
    exact W.iret (v := (-1)) hx hb hr (fun t ht hW => ⟨⟨(-1), (), rfl, e1, Rp.end e2 hp hK ht hW⟩, hp.2.2.F ht⟩) hp.2.2.2.2 dX9_set_40
  · have hf := pif_f c_4 hf
    refine lv_aload_n hx hb dX9_set_7 rfl (lv_at hl 0 rfl) ?_
    refine lv_iload_n hx hb dX9_set_8 rfl (lv_at hl 2 rfl) ?_
    obtain ⟨r_7, st_5, hc_6, hf⟩ := bnd_some hf
    refine r_ci hp hA (va_runV (As := [.int p1]) (rest := []) ⟨hx, hb, hml, hown, hts⟩ (c_X9_isMake l dC dI h0 ar ca p1 _ _ _ hc_6 _) (cwV 1 hts gq_X9_set_X9_isMake_239 rfl rfl rfl (by decide +kernel) ⟨Nat.le_of_ble_eq_true rfl, Nat.le_of_ble_eq_true rfl⟩) ⟨Pr.blind _, va_recv hK hp.1 (ci := 11) (q0 := 0) rfl rfl, r_pre hp hK hN hZ hA⟩ rfl rfl hl.1 rfl (lv_room (Nat.le_of_ble_eq_true rfl)) dX9_set_9 ⟨Nat.le_of_ble_eq_true rfl, Nat.le_of_ble_eq_true rfl⟩) (fun H locs hp => ?_)
    refine lv_if_eq (tgt := 39) hx hb dX9_set_12 (by decide) (fun c_8 => ?_) (fun c_8 => ?_)
    · have hf := pif_t c_8 hf
      refine lv_iconst (v := (-1)) hx hb dX9_set_39 (by decide) ?_
      obtain ⟨e1, e2⟩ := pr_some hf
      exact W.iret (v := (-1)) hx hb hr (fun t ht hW => ⟨⟨(-1), (), rfl, e1, Rp.end e2 hp hK ht hW⟩, hp.2.2.F ht⟩) hp.2.2.2.2 dX9_set_40
    · have hf := pif_f c_8 hf
      refine lv_aload_n hx hb dX9_set_15 rfl (lv_at hl 0 rfl) ?_
      refine lv_iload_n hx hb dX9_set_16 rfl (lv_at hl 2 rfl) ?_
      refine lv_iload_n hx hb dX9_set_17 rfl (lv_at hl 3 rfl) ?_
      obtain ⟨r_11, st_9, hc_10, hf⟩ := bnd_some hf
      refine r_ci hp hA (va_runV (As := [.int p1, .int p2]) (rest := []) ⟨hx, hb, hml, hown, hts⟩ (c_X9_has l dC dI h0 ar ca p1 p2 _ _ _ hc_10 _) (cwV 2 hts gq_X9_set_X9_has_246 rfl rfl rfl (by decide +kernel) ⟨Nat.le_of_ble_eq_true rfl, Nat.le_of_ble_eq_true rfl⟩) ⟨Pr.blind _, va_recv hK hp.1 (ci := 11) (q0 := 0) rfl rfl, r_pre hp hK hN hZ hA⟩ rfl rfl hl.1 rfl (lv_room (Nat.le_of_ble_eq_true rfl)) dX9_set_18 ⟨Nat.le_of_ble_eq_true rfl, Nat.le_of_ble_eq_true rfl⟩) (fun H locs hp => ?_)
      refine lv_if_eq (tgt := 39) hx hb dX9_set_21 (by decide) (fun c_12 => ?_) (fun c_12 => ?_)
      · have hf := pif_t c_12 hf
        refine lv_iconst (v := (-1)) hx hb dX9_set_39 (by decide) ?_
        obtain ⟨e1, e2⟩ := pr_some hf
        exact W.iret (v := (-1)) hx hb hr (fun t ht hW => ⟨⟨(-1), (), rfl, e1, Rp.end e2 hp hK ht hW⟩, hp.2.2.F ht⟩) hp.2.2.2.2 dX9_set_40
      · have hf := pif_f c_12 hf
        refine lv_aload_n hx hb dX9_set_24 rfl (lv_at hl 0 rfl) ?_
        refine r_ga hx hb hts iRX9 hown hK hp 1 (by decide) (by decide) (hts (.fieldLink RX9 13 "RecordBenchModel" "kind" "[I") (by decide +kernel)) dX9_set_25 ?_
        refine lv_bipush (v := 31) hx hb dX9_set_28 (by decide) ?_
        refine lv_iload_n hx hb dX9_set_30 rfl (lv_at hl 2 rfl) ?_
        refine lv_imul hx hb dX9_set_31 ?_
        refine lv_iload_n hx hb dX9_set_32 rfl (lv_at hl 3 rfl) ?_
        refine lv_iadd hx hb dX9_set_33 ?_
        obtain ⟨g_13, hf⟩ := gd_some hf
        refine r_ai (n := 248) hx hb hK hp 1 1 rfl rfl rfl g_13 dX9_set_34 ?_
        refine lv_iconst (v := 4) hx hb dX9_set_35 (by decide) ?_
        refine lv_icmp_le (tgt := 41) hx hb dX9_set_36 (by decide) (fun c_14 => ?_) (fun c_14 => ?_)
        · have hf := pif_t c_14 hf
          refine lv_aload_n hx hb dX9_set_41 rfl (lv_at hl 0 rfl) ?_
          refine lv_iload_n hx hb dX9_set_42 rfl (lv_at hl 1 rfl) ?_
          refine lv_iload_n hx hb dX9_set_43 rfl (lv_at hl 2 rfl) ?_
          obtain ⟨r_17, st_15, hc_16, hf⟩ := bnd_some hf
          refine r_ci hp hA (va_runV (As := [.int p0, .int p1]) (rest := []) ⟨hx, hb, hml, hown, hts⟩ (c_X9_isRead l dC dI h0 ar ca p0 p1 _ _ _ hc_16 _) (cwV 2 hts gq_X9_set_X9_isRead_308 rfl rfl rfl (by decide +kernel) ⟨Nat.le_of_ble_eq_true rfl, Nat.le_of_ble_eq_true rfl⟩) ⟨Pr.blind _, va_recv hK hp.1 (ci := 11) (q0 := 0) rfl rfl, r_pre hp hK hN hZ hA⟩ rfl rfl hl.1 rfl (lv_room (Nat.le_of_ble_eq_true rfl)) dX9_set_44 ⟨Nat.le_of_ble_eq_true rfl, Nat.le_of_ble_eq_true rfl⟩) (fun H locs hp => ?_)
          refine lv_if_ne (tgt := 53) hx hb dX9_set_47 (by decide) (fun c_18 => ?_) (fun c_18 => ?_)
          · have hf := pif_f c_18 hf
            refine lv_lload hx hb dX9_set_53 (lv_at hl 4 rfl) ?_
            refine lv_aload_n hx hb dX9_set_55 rfl (lv_at hl 0 rfl) ?_
            refine r_ga hx hb hts iRX9 hown hK hp 1 (by decide) (by decide) (hts (.fieldLink RX9 13 "RecordBenchModel" "kind" "[I") (by decide +kernel)) dX9_set_56 ?_
            refine lv_bipush (v := 31) hx hb dX9_set_59 (by decide) ?_
            refine lv_iload_n hx hb dX9_set_61 rfl (lv_at hl 2 rfl) ?_
            refine lv_imul hx hb dX9_set_62 ?_
            refine lv_iload_n hx hb dX9_set_63 rfl (lv_at hl 3 rfl) ?_
            refine lv_iadd hx hb dX9_set_64 ?_
            obtain ⟨g_19, hf⟩ := gd_some hf
            refine r_ai (n := 248) hx hb hK hp 1 1 rfl rfl rfl g_19 dX9_set_65 ?_
            obtain ⟨r_22, st_20, hc_21, hf⟩ := bnd_some hf
            refine r_ci hp hA (va_runS (As := [.long p3, .int (gF st_15 1 ((31 * p1) + p2).toNatClampNeg)]) (rest := []) ⟨hx, hb, hml, hown, hts⟩ (c_X9_isOf l dC dI h0 ar ca p3 (gF st_15 1 ((31 * p1) + p2).toNatClampNeg) _ _ _ hc_21 _) (cwS 2 hts gq_X9_set_X9_isOf_229 rfl rfl rfl (by decide +kernel) ⟨Nat.le_of_ble_eq_true rfl, Nat.le_of_ble_eq_true rfl⟩) ⟨Pr.blind _, r_pre hp hK hN hZ hA⟩ rfl rfl hl.1 rfl (lv_room (Nat.le_of_ble_eq_true rfl)) dX9_set_66 ⟨Nat.le_of_ble_eq_true rfl, Nat.le_of_ble_eq_true rfl⟩) (fun H locs hp => ?_)
            refine lv_if_ne (tgt := 75) hx hb dX9_set_69 (by decide) (fun c_23 => ?_) (fun c_23 => ?_)
            · have hf := pif_f c_23 hf
              refine lv_aload_n hx hb dX9_set_75 rfl (lv_at hl 0 rfl) ?_
              refine r_ga hx hb hts iRX9 hown hK hp 53 (by decide) (by decide) (hts (.fieldLink RX9 117 "RecordBenchModel" "laidLong" "[I") (by decide +kernel)) dX9_set_76 ?_
              refine lv_iconst (v := 0) hx hb dX9_set_79 (by decide) ?_
              refine lv_iconst (v := 0) hx hb dX9_set_80 (by decide) ?_
              obtain ⟨g_24, hf⟩ := gd_some hf
              refine r_si (n := 9) hx hb hK hp 24 53 rfl rfl rfl g_24 dX9_set_81 (fun H locs hp => ?_)
              obtain ⟨st_25, est_25, hf⟩ := nam_some hf
              rw [← est_25] at hp
              refine lv_aload_n hx hb dX9_set_82 rfl (lv_at hl 0 rfl) ?_
              refine lv_iconst (v := 0) hx hb dX9_set_83 (by decide) ?_
              refine lv_iconst (v := 2) hx hb dX9_set_84 (by decide) ?_
              refine lv_iload_n hx hb dX9_set_85 rfl (lv_at hl 3 rfl) ?_
              refine lv_imul hx hb dX9_set_86 ?_
              refine lv_i2l (v := (2 * p2).toInt64) hx hb dX9_set_87 rfl ?_
              obtain ⟨st_26, hc_27, hf⟩ := bnv_some hf
              refine r_cv hp hA (va_runV (As := [.int 0, .long ((2 * p2).toInt64)]) (rest := []) ⟨hx, hb, hml, hown, hts⟩ (c_X9_laysVarint l dC dI h0 ar ca 0 ((2 * p2).toInt64) _ _ hc_27 _) (cwV 2 hts gq_X9_set_X9_laysVarint_323 rfl rfl rfl (by decide +kernel) ⟨Nat.le_of_ble_eq_true rfl, Nat.le_of_ble_eq_true rfl⟩) ⟨Pr.blind _, va_recv hK hp.1 (ci := 11) (q0 := 0) rfl rfl, r_pre hp hK hN hZ hA⟩ rfl rfl hl.1 rfl (lv_room (Nat.le_of_ble_eq_true rfl)) dX9_set_88 ⟨Nat.le_of_ble_eq_true rfl, Nat.le_of_ble_eq_true rfl⟩) (fun H locs hp => ?_)
              refine lv_aload_n hx hb dX9_set_91 rfl (lv_at hl 0 rfl) ?_
              refine lv_iconst (v := 0) hx hb dX9_set_92 (by decide) ?_
              refine lv_lload hx hb dX9_set_93 (lv_at hl 4 rfl) ?_
              obtain ⟨r_31, st_29, hc_30, hf⟩ := bnd_some hf
              refine r_cl hp hA (va_runS (As := [.long p3]) (rest := [.int 0, .ref h0]) ⟨hx, hb, hml, hown, hts⟩ (c_X9_folded l dC dI h0 ar ca p3 _ _ _ hc_30 _) (cwS 1 hts gq_X9_set_X9_folded_327 rfl rfl rfl (by decide +kernel) ⟨Nat.le_of_ble_eq_true rfl, Nat.le_of_ble_eq_true rfl⟩) ⟨Pr.blind _, r_pre hp hK hN hZ hA⟩ rfl rfl hl.1 rfl (lv_room (Nat.le_of_ble_eq_true rfl)) dX9_set_95 ⟨Nat.le_of_ble_eq_true rfl, Nat.le_of_ble_eq_true rfl⟩) (fun H locs hp => ?_)
              obtain ⟨st_32, hc_33, hf⟩ := bnv_some hf
              refine r_cv hp hA (va_runV (As := [.int 0, .long r_31]) (rest := []) ⟨hx, hb, hml, hown, hts⟩ (c_X9_laysVarint l dC dI h0 ar ca 0 r_31 _ _ hc_33 _) (cwV 2 hts gq_X9_set_X9_laysVarint_323 rfl rfl rfl (by decide +kernel) ⟨Nat.le_of_ble_eq_true rfl, Nat.le_of_ble_eq_true rfl⟩) ⟨Pr.blind _, va_recv hK hp.1 (ci := 11) (q0 := 0) rfl rfl, r_pre hp hK hN hZ hA⟩ rfl rfl hl.1 rfl (lv_room (Nat.le_of_ble_eq_true rfl)) dX9_set_98 ⟨Nat.le_of_ble_eq_true rfl, Nat.le_of_ble_eq_true rfl⟩) (fun H locs hp => ?_)
              refine lv_aload_n hx hb dX9_set_101 rfl (lv_at hl 0 rfl) ?_
              obtain ⟨st_35, hc_36, hf⟩ := bnv_some hf
              refine r_cv hp hA (va_runV (As := []) (rest := []) ⟨hx, hb, hml, hown, hts⟩ (c_X9_keepsFresh l dC dI h0 ar ca  _ _ hc_36 _) (cwV 0 hts gq_X9_set_X9_keepsFresh_340 rfl rfl rfl (by decide +kernel) ⟨Nat.le_of_ble_eq_true rfl, Nat.le_of_ble_eq_true rfl⟩) ⟨Pr.blind _, va_recv hK hp.1 (ci := 11) (q0 := 0) rfl rfl, r_pre hp hK hN hZ hA⟩ rfl rfl hl.1 rfl (lv_room (Nat.le_of_ble_eq_true rfl)) dX9_set_102 ⟨Nat.le_of_ble_eq_true rfl, Nat.le_of_ble_eq_true rfl⟩) (fun H locs hp => ?_)
              refine lv_aload_n hx hb dX9_set_105 rfl (lv_at hl 0 rfl) ?_
              refine lv_iload_n hx hb dX9_set_106 rfl (lv_at hl 1 rfl) ?_
              refine lv_iload_n hx hb dX9_set_107 rfl (lv_at hl 2 rfl) ?_
              refine lv_iload_n hx hb dX9_set_108 rfl (lv_at hl 3 rfl) ?_
              obtain ⟨r_40, st_38, hc_39, hf⟩ := bnd_some hf
              refine r_ci hp hA (va_runV (As := [.int p0, .int p1, .int p2]) (rest := []) ⟨hx, hb, hml, hown, hts⟩ (c_X9_puts l dC dI h0 ar ca p0 p1 p2 _ _ _ hc_39 _) (cwV 3 hts gq_X9_set_X9_puts_343 rfl rfl rfl (by decide +kernel) ⟨Nat.le_of_ble_eq_true rfl, Nat.le_of_ble_eq_true rfl⟩) ⟨Pr.blind _, va_recv hK hp.1 (ci := 11) (q0 := 0) rfl rfl, r_pre hp hK hN hZ hA⟩ rfl rfl hl.1 rfl (lv_room (Nat.le_of_ble_eq_true rfl)) dX9_set_109 ⟨Nat.le_of_ble_eq_true rfl, Nat.le_of_ble_eq_true rfl⟩) (fun H locs hp => ?_)
              obtain ⟨e1, e2⟩ := pr_some hf
              exact W.iret (v := r_40) hx hb hr (fun t ht hW => ⟨⟨r_40, (), rfl, e1, Rp.end e2 hp hK ht hW⟩, hp.2.2.F ht⟩) hp.2.2.2.2 dX9_set_112
            · have hf := pif_t c_23 hf
              refine lv_bipush (v := (-3)) hx hb dX9_set_72 (by decide) ?_
              obtain ⟨e1, e2⟩ := pr_some hf
              exact W.iret (v := (-3)) hx hb hr (fun t ht hW => ⟨⟨(-3), (), rfl, e1, Rp.end e2 hp hK ht hW⟩, hp.2.2.F ht⟩) hp.2.2.2.2 dX9_set_74
          · have hf := pif_t c_18 hf
            refine lv_bipush (v := (-2)) hx hb dX9_set_50 (by decide) ?_
            obtain ⟨e1, e2⟩ := pr_some hf
            exact W.iret (v := (-2)) hx hb hr (fun t ht hW => ⟨⟨(-2), (), rfl, e1, Rp.end e2 hp hK ht hW⟩, hp.2.2.F ht⟩) hp.2.2.2.2 dX9_set_52
        · have hf := pif_f c_14 hf
          refine lv_iconst (v := (-1)) hx hb dX9_set_39 (by decide) ?_
          obtain ⟨e1, e2⟩ := pr_some hf
          exact W.iret (v := (-1)) hx hb hr (fun t ht hW => ⟨⟨(-1), (), rfl, e1, Rp.end e2 hp hK ht hW⟩, hp.2.2.F ht⟩) hp.2.2.2.2 dX9_set_40
noncomputable def x9_say_109  : Nat → Int32 → Int32 → Int32 → Int32 → Int32 → RS → Option (Int32 × RS)
  | 0 => fun _ _ _ _ _ _ => none
  | n + 1 => fun l1 l2 l3 l4 l5 st => pif (l4 ≤ l5) (bnv (x9_keepsFresh st) (fun st_2 => bnd (x9_puts l1 l2 l3 st_2) (fun r_7 st_5 => some (r_7, st_5)))) (gd (vp_in l5 400) (bnv (x9_lays 0 (gF st 9 l5.toNatClampNeg) st) (fun st_9 => nam (l5 + 1) (fun v_12 => (x9_say_109 n) l1 l2 l3 l4 v_12 st_9))))
theorem x9_say_109_z  (l1 : Int32) (l2 : Int32) (l3 : Int32) (l4 : Int32) (l5 : Int32) (st : RS) : x9_say_109  0 l1 l2 l3 l4 l5 st = none := rfl
theorem x9_say_109_s  (n : Nat) (l1 : Int32) (l2 : Int32) (l3 : Int32) (l4 : Int32) (l5 : Int32) (st : RS) : x9_say_109  (n + 1) l1 l2 l3 l4 l5 st = pif (l4 ≤ l5) (bnv (x9_keepsFresh st) (fun st_2 => bnd (x9_puts l1 l2 l3 st_2) (fun r_7 st_5 => some (r_7, st_5)))) (gd (vp_in l5 400) (bnv (x9_lays 0 (gF st 9 l5.toNatClampNeg) st) (fun st_9 => nam (l5 + 1) (fun v_12 => (x9_say_109 n) l1 l2 l3 l4 v_12 st_9)))) := rfl
noncomputable def x9_say (p0 : Int32) (p1 : Int32) (p2 : Int32) (st : RS) : Option (Int32 × RS) := nam (gI st 10) (fun v_13 => nam (sI st 10 0) (fun st_14 => bnd (x9_isRecord p0 st_14) (fun r_17 st_15 => pif (r_17 = 0) (some (((-1) : Int32), st_15)) (bnd (x9_isMake p1 st_15) (fun r_21 st_19 => pif (r_21 = 0) (some (((-1) : Int32), st_19)) (bnd (x9_has p1 p2 st_19) (fun r_25 st_23 => pif (r_25 = 0) (some (((-1) : Int32), st_23)) (gd (vp_in ((31 * p1) + p2) 248) (pif ((gF st_23 1 ((31 * p1) + p2).toNatClampNeg) = 5) (bnd (x9_isRead p0 p1 st_23) (fun r_31 st_29 => pif (r_31 = 0) (some (((-2) : Int32), st_29)) (bnd (x9_isText_9 0 v_13 st_29) (fun r_35 st_33 => pif (r_35 = 0) (some (((-3) : Int32), st_33)) (gd (vp_in (0 : Int32) 9) (nam (sF st_33 53 (upd (gF st_33 53) (0 : Int32).toNatClampNeg 0)) (fun st_38 => bnv (x9_laysVarint 0 (((2 * p2) + 1).toInt64) st_38) (fun st_39 => bnv (x9_laysVarint 0 v_13.toInt64 st_39) (fun st_42 => x9_say_109  fuel p0 p1 p2 v_13 0 st_42))))))))) (some (((-1) : Int32), st_23)))))))))))
def wq_X9_say : List Cond := .code yX9_say cX9_say 6 (some .int) :: (([.fieldLink RX9 132 "RecordBenchModel" "taped" "I", .fieldLink RX9 13 "RecordBenchModel" "kind" "[I", .fieldLink RX9 39 "RecordBenchModel" "tape" "[I", .fieldLink RX9 117 "RecordBenchModel" "laidLong" "[I", .methodLink RX9 340 yX9_keepsFresh, .instanceMethod yX9_keepsFresh, .selects RX9 yX9_keepsFresh yX9_keepsFresh, .initialized RX9, .methodLink RX9 343 yX9_puts, .instanceMethod yX9_puts, .selects RX9 yX9_puts yX9_puts, .methodLink RX9 320 yX9_lays, .instanceMethod yX9_lays, .selects RX9 yX9_lays yX9_lays, .methodLink RX9 249 yX9_isRecord, .static yX9_isRecord, .methodLink RX9 239 yX9_isMake, .instanceMethod yX9_isMake, .selects RX9 yX9_isMake yX9_isMake, .methodLink RX9 246 yX9_has, .instanceMethod yX9_has, .selects RX9 yX9_has yX9_has, .methodLink RX9 308 yX9_isRead, .instanceMethod yX9_isRead, .selects RX9 yX9_isRead yX9_isRead, .methodLink RX9 281 yX9_isText, .static yX9_isText, .methodLink RX9 323 yX9_laysVarint, .instanceMethod yX9_laysVarint, .selects RX9 yX9_laysVarint yX9_laysVarint, .code yX9_keepsFresh cX9_keepsFresh 2 none, .fieldLink RX9 337 "RecordBenchModel" "freshLong" "I", .fieldLink RX9 123 "RecordBenchModel" "fresh" "[I", .fieldLink RX9 114 "RecordBenchModel" "laid" "[I", .code yX9_puts cX9_puts 11 (some .int), .fieldLink RX9 78 "RecordBenchModel" "long0" "[I", .fieldLink RX9 17 "RecordBenchModel" "group" "[I", .fieldLink RX9 81 "RecordBenchModel" "row" "[I", .fieldLink RX9 278 "RecordBenchModel" "to" "I", .fieldLink RX9 263 "RecordBenchModel" "number" "I", .methodLink RX9 334 yX9_comes, .instanceMethod yX9_comes, .selects RX9 yX9_comes yX9_comes, .methodLink RX9 298 yX9_piece, .instanceMethod yX9_piece, .selects RX9 yX9_piece yX9_piece, .methodLink RX9 302 yX9_loads, .instanceMethod yX9_loads, .selects RX9 yX9_loads yX9_loads, .methodLink RX9 331 yX9_writes, .instanceMethod yX9_writes, .selects RX9 yX9_writes yX9_writes, .code yX9_comes cX9_comes 3 none, .fieldLink RX9 75 "RecordBenchModel" "bytes" "[I", .code yX9_lays cX9_lays 3 none, .code yX9_piece cX9_piece 14 none, .fieldLink RX9 260 "RecordBenchModel" "pieceFault" "I", .fieldLink RX9 252 "RecordBenchModel" "varint" "J", .fieldLink RX9 267 "RecordBenchModel" "isLong" "Z", .constantLong RX9 271 (30), .fieldLink RX9 257 "RecordBenchModel" "varintEnd" "I", .fieldLink RX9 273 "RecordBenchModel" "value" "J", .fieldLink RX9 275 "RecordBenchModel" "from" "I", .methodLink RX9 229 yX9_isOf, .static yX9_isOf, .methodLink RX9 265 yX9_varint, .instanceMethod yX9_varint, .selects RX9 yX9_varint yX9_varint, .code yX9_isText cX9_isText 4 (some .boolean), .code yX9_isOf cX9_isOf 3 (some .boolean), .constantLong RX9 219 (-2147483648), .constantLong RX9 221 (2147483647), .constantLong RX9 215 (-128), .constantLong RX9 217 (127), .code yX9_has cX9_has 3 (some .boolean), .fieldLink RX9 36 "RecordBenchModel" "isThere" "[Z", .code yX9_varint cX9_varint 6 (some .boolean), .constantLong RX9 255 (128), .code yX9_loads cX9_loads 3 none, .code yX9_writes cX9_writes 9 none, .fieldLink RX9 102 "RecordBenchModel" "pileAt" "[I", .fieldLink RX9 105 "RecordBenchModel" "pileEnd" "[I", .fieldLink RX9 99 "RecordBenchModel" "pileMake" "[I", .fieldLink RX9 20 "RecordBenchModel" "inner" "[I", .fieldLink RX9 120 "RecordBenchModel" "levelKey" "[I", .methodLink RX9 327 yX9_folded, .static yX9_folded, .methodLink RX9 294 yX9_opens, .instanceMethod yX9_opens, .selects RX9 yX9_opens yX9_opens, .code yX9_laysVarint cX9_laysVarint 6 none, .code yX9_folded cX9_folded 2 (some .long), .code yX9_opens cX9_opens 5 none, .fieldLink RX9 108 "RecordBenchModel" "pileLast" "[I", .fieldLink RX9 111 "RecordBenchModel" "pileGroups" "[I", .code yX9_isRecord cX9_isRecord 1 (some .boolean), .code yX9_isMake cX9_isMake 2 (some .boolean), .fieldLink RX9 7 "RecordBenchModel" "told" "[Z", .code yX9_isRead cX9_isRead 3 (some .boolean), .methodLink RX9 305 yX9_reads, .instanceMethod yX9_reads, .selects RX9 yX9_reads yX9_reads, .code yX9_reads cX9_reads 7 (some .boolean), .fieldLink RX9 285 "RecordBenchModel" "readFault" "I", .fieldLink RX9 288 "RecordBenchModel" "readPlace" "I", .fieldLink RX9 291 "RecordBenchModel" "pieces" "I", .fieldLink RX9 84 "RecordBenchModel" "pieceNumber" "[I", .fieldLink RX9 87 "RecordBenchModel" "pieceBegin" "[I", .fieldLink RX9 90 "RecordBenchModel" "pieceFrom" "[I", .fieldLink RX9 93 "RecordBenchModel" "pieceTo" "[I", .fieldLink RX9 96 "RecordBenchModel" "pieceValue" "[J"] : List Cond) ++ wsX90)
theorem gs_wq_X9_say_wsX90 : GoodIn wq_X9_say wsX90 := fun w h => ⟨List.mem_cons_of_mem _ (List.mem_append_right _ h), (gt_wsX90 w h).2⟩
set_option maxRecDepth 20000 in
theorem gq_X9_say_X9_keepsFresh_340 : GoodIn wq_X9_say (wsV RX9 340 RX9 yX9_keepsFresh wq_X9_keepsFresh) := goodIn_app (goodIn_r _ [5, 6, 7, 8] rfl rfl) (goodIn_ca (goodIn_r _ [31, 4, 32, 33, 34] rfl rfl) gs_wq_X9_say_wsX90)
set_option maxRecDepth 20000 in
theorem gq_X9_say_X9_puts_343 : GoodIn wq_X9_say (wsV RX9 343 RX9 yX9_puts wq_X9_puts) := goodIn_app (goodIn_r _ [9, 10, 11, 8] rfl rfl) (goodIn_ca (goodIn_r _ [35, 36, 4, 37, 38, 34, 39, 40, 32, 33, 41, 42, 43, 8, 12, 13, 14, 44, 45, 46, 20, 21, 22, 47, 48, 49, 50, 51, 52, 53, 54, 55, 56, 57, 58, 59, 60, 61, 62, 63, 2, 26, 27, 64, 65, 66, 67, 68, 69, 70, 71, 72, 73, 74, 75, 76, 77, 78, 79, 80, 81, 82, 83, 84, 85, 28, 29, 30, 86, 87, 88, 89, 90, 91, 92, 93, 94, 95] rfl rfl) gs_wq_X9_say_wsX90)
set_option maxRecDepth 20000 in
theorem gq_X9_say_X9_lays_320 : GoodIn wq_X9_say (wsV RX9 320 RX9 yX9_lays wq_X9_lays) := goodIn_app (goodIn_r _ [12, 13, 14, 8] rfl rfl) (goodIn_ca (goodIn_r _ [55, 34, 4] rfl rfl) gs_wq_X9_say_wsX90)
set_option maxRecDepth 20000 in
theorem gq_X9_say_X9_isRecord_249 : GoodIn wq_X9_say (wsS RX9 249 yX9_isRecord wq_X9_isRecord) := goodIn_app (goodIn_r _ [15, 16, 8] rfl rfl) (goodIn_r _ [96] rfl rfl)
set_option maxRecDepth 20000 in
theorem gq_X9_say_X9_isMake_239 : GoodIn wq_X9_say (wsV RX9 239 RX9 yX9_isMake wq_X9_isMake) := goodIn_app (goodIn_r _ [17, 18, 19, 8] rfl rfl) (goodIn_ca (goodIn_r _ [97, 98] rfl rfl) gs_wq_X9_say_wsX90)
set_option maxRecDepth 20000 in
theorem gq_X9_say_X9_has_246 : GoodIn wq_X9_say (wsV RX9 246 RX9 yX9_has wq_X9_has) := goodIn_app (goodIn_r _ [20, 21, 22, 8] rfl rfl) (goodIn_ca (goodIn_r _ [75, 76, 2] rfl rfl) gs_wq_X9_say_wsX90)
set_option maxRecDepth 20000 in
theorem gq_X9_say_X9_isRead_308 : GoodIn wq_X9_say (wsV RX9 308 RX9 yX9_isRead wq_X9_isRead) := goodIn_app (goodIn_r _ [23, 24, 25, 8] rfl rfl) (goodIn_ca (goodIn_r _ [99, 36, 47, 48, 49, 8, 100, 101, 102, 79, 38, 54, 103, 104, 105, 106, 81, 82, 83, 94, 95, 57, 107, 40, 108, 109, 63, 110, 39, 111, 62, 37, 2, 84, 88, 89, 90, 20, 21, 22, 44, 45, 46, 93, 75, 76, 56, 58, 59, 60, 61, 26, 27, 64, 65, 66, 67, 68, 69, 70, 71, 72, 73, 74, 77, 78] rfl rfl) gs_wq_X9_say_wsX90)
set_option maxRecDepth 20000 in
theorem gq_X9_say_X9_isText_9_281 : GoodIn wq_X9_say (wsS RX9 281 yX9_isText wq_X9_isText_9) := goodIn_app (goodIn_r _ [26, 27, 8] rfl rfl) (goodIn_r _ [69] rfl rfl)
set_option maxRecDepth 20000 in
theorem gq_X9_say_X9_laysVarint_323 : GoodIn wq_X9_say (wsV RX9 323 RX9 yX9_laysVarint wq_X9_laysVarint) := goodIn_app (goodIn_r _ [28, 29, 30, 8] rfl rfl) (goodIn_ca (goodIn_r _ [91, 74, 12, 13, 14, 8, 55, 34, 4] rfl rfl) gs_wq_X9_say_wsX90)
set_option maxHeartbeats 4000000 in
set_option maxRecDepth 100000 in
theorem c_X9_say (l : Launch) (dC : Nat → ClassId) (dI : Nat → Nat → Nat) (h0 : Nat) (ar : Nat → Nat) (ca : Nat → ClassId) (p0 : Int32) (p1 : Int32) (p2 : Int32) (st st' : RS) (r : Int32) (hf : x9_say p0 p1 p2 st = some (r, st')) (sz : Nat) : Met l yX9_say wq_X9_say ({ frames := 4, cells := 0, slots := 0, locals := 132 }) (va_Pc [.ref h0, .int p0, .int p1, .int p2] (Pr (dC, dI) (rT ca) [] (RW h0 ar ca st) sz)) (va_Qi (fun r' (_ : Unit) => r' = r) (Bq (dC, dI) (fun _ => RW h0 ar ca st') (fun _ => []) (va_A (RW h0 ar ca st) sz)) (va_A (RW h0 ar ca st) sz)) 0 0 (va_A (RW h0 ar ca st) sz) := by
  refine Met.ofW (cc := cX9_say) (maxL := 6) (ret := (some .int)) (by decide) rfl ?_
  intro p e s m args below meth c s₁ B hml hv
  obtain ⟨rfl, hsz, hP, hK, hD0, hN, hZ, hR⟩ := hv
  have hx := B.exec
  have hb := B.bytes
  have hr := B.returns
  have hts := atoms_spec (ws := wq_X9_say) B.pre
  have hown : s.vm.findClass RX9 = some m.cls := findClass_of_methodNamed B.named
  have iRX9 : ∀ w ∈ u_ws RX9 TX9 60, w ∈ wq_X9_say := fun w h => List.mem_cons_of_mem _ (List.mem_append_right _ h)
  subst hsz
  have hp : Rp (dC, dI) h0 ar ca (va_A (RW h0 ar ca st) s.heap.size) s.heap st s.heap [] := ⟨hP, hD0.self, va_S.rf⟩
  generalize hAe : va_A (RW h0 ar ca st) s.heap.size = A at hp hZ ⊢
  have hA : ∀ q : Nat, s.heap.size ≤ q → A q := fun q h => by rw [← hAe]; exact Or.inr h
  have hl := lv_entry ([.ref h0, .int p0, .int p1, .int p2]) (n := 6) (Nat.le_of_ble_eq_true rfl)
  rw [lg_entry_eq]
  generalize (lg_sl ([.ref h0, .int p0, .int p1, .int p2]) ++ List.replicate (6 - (lg_sl ([.ref h0, .int p0, .int p1, .int p2])).length) Slot.unset).toArray = ls at hl ⊢
  have hl : lv_has ls 6 [(0, .ref h0), (1, .int p0), (2, .int p1), (3, .int p2)] := hl
  refine W_lp (fun n109 (u : Int32 × Int32 × Int32 × Int32 × Int32 × RS) H locs ls => match u with | (l1, l2, l3, l4, l5, st) => x9_say_109 n109 l1 l2 l3 l4 l5 st = some (r, st') ∧ Rp (dC, dI) h0 ar ca A s.heap st H locs ∧ lv_has ls 6 [(0, .ref h0), (1, .int l1), (2, .int l2), (3, .int l3), (4, .int l4), (5, .int l5)]) (fun (u : Int32 × Int32 × Int32 × Int32 × Int32 × RS) ls => match u with | (l1, l2, l3, l4, l5, st) => F0 m 109 ls []) ?_ ?_ (fun J109 => ?_)
  · intro u H locs ls hu
    obtain ⟨l1, l2, l3, l4, l5, st⟩ := u
    obtain ⟨hf, hp, hl⟩ := hu
    rw [x9_say_109_z] at hf
    cases hf
  · intro n109 ih109 u H locs ls hu
    obtain ⟨l1, l2, l3, l4, l5, st⟩ := u
    obtain ⟨hf, hp, hl⟩ := hu
    show W p l e _ s m _ below meth c _ _ _ _ _ (F0 m 109 ls [])
    rw [x9_say_109_s] at hf
    refine lv_iload hx hb dX9_say_109 (lv_at hl 5 rfl) ?_
    refine lv_iload hx hb dX9_say_111 (lv_at hl 4 rfl) ?_
    refine lv_icmp_ge (tgt := 134) hx hb dX9_say_113 (by decide) (fun c_1 => ?_) (fun c_1 => ?_)
    · have hf := pif_t c_1 hf
      refine lv_aload_n hx hb dX9_say_134 rfl (lv_at hl 0 rfl) ?_
      obtain ⟨st_2, hc_3, hf⟩ := bnv_some hf
      refine r_cv hp hA (va_runV (As := []) (rest := []) ⟨hx, hb, hml, hown, hts⟩ (c_X9_keepsFresh l dC dI h0 ar ca  _ _ hc_3 _) (cwV 0 hts gq_X9_say_X9_keepsFresh_340 rfl rfl rfl (by decide +kernel) ⟨Nat.le_of_ble_eq_true rfl, Nat.le_of_ble_eq_true rfl⟩) ⟨Pr.blind _, va_recv hK hp.1 (ci := 11) (q0 := 0) rfl rfl, r_pre hp hK hN hZ hA⟩ rfl rfl hl.1 rfl (lv_room (Nat.le_of_ble_eq_true rfl)) dX9_say_135 ⟨Nat.le_of_ble_eq_true rfl, Nat.le_of_ble_eq_true rfl⟩) (fun H locs hp => ?_)
      refine lv_aload_n hx hb dX9_say_138 rfl (lv_at hl 0 rfl) ?_
      refine lv_iload_n hx hb dX9_say_139 rfl (lv_at hl 1 rfl) ?_
      refine lv_iload_n hx hb dX9_say_140 rfl (lv_at hl 2 rfl) ?_
      refine lv_iload_n hx hb dX9_say_141 rfl (lv_at hl 3 rfl) ?_
      obtain ⟨r_7, st_5, hc_6, hf⟩ := bnd_some hf
      refine r_ci hp hA (va_runV (As := [.int l1, .int l2, .int l3]) (rest := []) ⟨hx, hb, hml, hown, hts⟩ (c_X9_puts l dC dI h0 ar ca l1 l2 l3 _ _ _ hc_6 _) (cwV 3 hts gq_X9_say_X9_puts_343 rfl rfl rfl (by decide +kernel) ⟨Nat.le_of_ble_eq_true rfl, Nat.le_of_ble_eq_true rfl⟩) ⟨Pr.blind _, va_recv hK hp.1 (ci := 11) (q0 := 0) rfl rfl, r_pre hp hK hN hZ hA⟩ rfl rfl hl.1 rfl (lv_room (Nat.le_of_ble_eq_true rfl)) dX9_say_142 ⟨Nat.le_of_ble_eq_true rfl, Nat.le_of_ble_eq_true rfl⟩) (fun H locs hp => ?_)
      obtain ⟨e1, e2⟩ := pr_some hf
      exact W.iret (v := r_7) hx hb hr (fun t ht hW => ⟨⟨r_7, (), rfl, e1, Rp.end e2 hp hK ht hW⟩, hp.2.2.F ht⟩) hp.2.2.2.2 dX9_say_145
    · have hf := pif_f c_1 hf
      refine lv_aload_n hx hb dX9_say_116 rfl (lv_at hl 0 rfl) ?_
      refine lv_iconst (v := 0) hx hb dX9_say_117 (by decide) ?_
      refine lv_aload_n hx hb dX9_say_118 rfl (lv_at hl 0 rfl) ?_
      refine r_ga hx hb hts iRX9 hown hK hp 9 (by decide) (by decide) (hts (.fieldLink RX9 39 "RecordBenchModel" "tape" "[I") (by decide +kernel)) dX9_say_119 ?_
      refine lv_iload hx hb dX9_say_122 (lv_at hl 5 rfl) ?_
      obtain ⟨g_8, hf⟩ := gd_some hf
      refine r_ai (n := 400) hx hb hK hp 9 9 rfl rfl rfl g_8 dX9_say_124 ?_
      obtain ⟨st_9, hc_10, hf⟩ := bnv_some hf
      refine r_cv hp hA (va_runV (As := [.int 0, .int (gF st 9 l5.toNatClampNeg)]) (rest := []) ⟨hx, hb, hml, hown, hts⟩ (c_X9_lays l dC dI h0 ar ca 0 (gF st 9 l5.toNatClampNeg) _ _ hc_10 _) (cwV 2 hts gq_X9_say_X9_lays_320 rfl rfl rfl (by decide +kernel) ⟨Nat.le_of_ble_eq_true rfl, Nat.le_of_ble_eq_true rfl⟩) ⟨Pr.blind _, va_recv hK hp.1 (ci := 11) (q0 := 0) rfl rfl, r_pre hp hK hN hZ hA⟩ rfl rfl hl.1 rfl (lv_room (Nat.le_of_ble_eq_true rfl)) dX9_say_125 ⟨Nat.le_of_ble_eq_true rfl, Nat.le_of_ble_eq_true rfl⟩) (fun H locs hp => ?_)
      obtain ⟨v_12, ev_12, hf⟩ := nam_some hf
      refine lv_iinc (v := v_12) (lv' := [(5, .int v_12), (0, .ref h0), (1, .int l1), (2, .int l2), (3, .int l3), (4, .int l4)]) hx hb dX9_say_128 hl (k := 5) rfl ev_12.symm (by decide) rfl (fun ls hl => ?_)
      refine lv_goto (tgt := 109) hx hb dX9_say_131 (by decide) ?_
      exact ih109 (l1, l2, l3, l4, v_12, st_9) _ _ _ ⟨hf, hp, (lv_sub hl [1, 2, 3, 4, 5, 0] rfl)⟩
  unfold x9_say at hf
  refine lv_aload_n hx hb dX9_say_0 rfl (lv_at hl 0 rfl) ?_
  refine r_gi hx hb hts iRX9 hown hK hp 10 (by decide) rfl (hts (.fieldLink RX9 132 "RecordBenchModel" "taped" "I") (by decide +kernel)) dX9_say_1 ?_
  obtain ⟨v_13, ev_13, hf⟩ := nam_some hf
  refine W_toi (y := v_13) ev_13.symm ?_
  refine lv_istore (lv' := [(4, .int v_13), (0, .ref h0), (1, .int p0), (2, .int p1), (3, .int p2)]) hx hb dX9_say_4 hl (by decide) rfl (fun ls hl => ?_)
  refine lv_aload_n hx hb dX9_say_6 rfl (lv_at hl 1 rfl) ?_
  refine lv_iconst (v := 0) hx hb dX9_say_7 (by decide) ?_
  refine r_pi (v := 0) (ty := .int) hx hb hts iRX9 hown hK hp 10 (by decide) rfl (hts (.fieldLink RX9 132 "RecordBenchModel" "taped" "I") (by decide +kernel)) rfl (by decide +kernel) rfl rfl dX9_say_8 (fun H locs hp => ?_)
  obtain ⟨st_14, est_14, hf⟩ := nam_some hf
  rw [← est_14] at hp
  refine lv_iload_n hx hb dX9_say_11 rfl (lv_at hl 2 rfl) ?_
  obtain ⟨r_17, st_15, hc_16, hf⟩ := bnd_some hf
  refine r_ci hp hA (va_runS (As := [.int p0]) (rest := []) ⟨hx, hb, hml, hown, hts⟩ (c_X9_isRecord l dC dI h0 ar ca p0 _ _ _ hc_16 _) (cwS 1 hts gq_X9_say_X9_isRecord_249 rfl rfl rfl (by decide +kernel) ⟨Nat.le_of_ble_eq_true rfl, Nat.le_of_ble_eq_true rfl⟩) ⟨Pr.blind _, r_pre hp hK hN hZ hA⟩ rfl rfl hl.1 rfl (lv_room (Nat.le_of_ble_eq_true rfl)) dX9_say_12 ⟨Nat.le_of_ble_eq_true rfl, Nat.le_of_ble_eq_true rfl⟩) (fun H locs hp => ?_)
  refine lv_if_eq (tgt := 50) hx hb dX9_say_15 (by decide) (fun c_18 => ?_) (fun c_18 => ?_)
  · have hf := pif_t c_18 hf
    refine lv_iconst (v := (-1)) hx hb dX9_say_50 (by decide) ?_
    obtain ⟨e1, e2⟩ := pr_some hf
    exact W.iret (v := (-1)) hx hb hr (fun t ht hW => ⟨⟨(-1), (), rfl, e1, Rp.end e2 hp hK ht hW⟩, hp.2.2.F ht⟩) hp.2.2.2.2 dX9_say_51
  · have hf := pif_f c_18 hf
    refine lv_aload_n hx hb dX9_say_18 rfl (lv_at hl 1 rfl) ?_
    refine lv_iload_n hx hb dX9_say_19 rfl (lv_at hl 3 rfl) ?_
    obtain ⟨r_21, st_19, hc_20, hf⟩ := bnd_some hf
    refine r_ci hp hA (va_runV (As := [.int p1]) (rest := []) ⟨hx, hb, hml, hown, hts⟩ (c_X9_isMake l dC dI h0 ar ca p1 _ _ _ hc_20 _) (cwV 1 hts gq_X9_say_X9_isMake_239 rfl rfl rfl (by decide +kernel) ⟨Nat.le_of_ble_eq_true rfl, Nat.le_of_ble_eq_true rfl⟩) ⟨Pr.blind _, va_recv hK hp.1 (ci := 11) (q0 := 0) rfl rfl, r_pre hp hK hN hZ hA⟩ rfl rfl hl.1 rfl (lv_room (Nat.le_of_ble_eq_true rfl)) dX9_say_20 ⟨Nat.le_of_ble_eq_true rfl, Nat.le_of_ble_eq_true rfl⟩) (fun H locs hp => ?_)
    refine lv_if_eq (tgt := 50) hx hb dX9_say_23 (by decide) (fun c_22 => ?_) (fun c_22 => ?_)
    · have hf := pif_t c_22 hf
      refine lv_iconst (v := (-1)) hx hb dX9_say_50 (by decide) ?_
      obtain ⟨e1, e2⟩ := pr_some hf
      exact W.iret (v := (-1)) hx hb hr (fun t ht hW => ⟨⟨(-1), (), rfl, e1, Rp.end e2 hp hK ht hW⟩, hp.2.2.F ht⟩) hp.2.2.2.2 dX9_say_51
    · have hf := pif_f c_22 hf
      refine lv_aload_n hx hb dX9_say_26 rfl (lv_at hl 1 rfl) ?_
      refine lv_iload_n hx hb dX9_say_27 rfl (lv_at hl 3 rfl) ?_
      refine lv_iload_n hx hb dX9_say_28 rfl (lv_at hl 4 rfl) ?_
      obtain ⟨r_25, st_23, hc_24, hf⟩ := bnd_some hf
      refine r_ci hp hA (va_runV (As := [.int p1, .int p2]) (rest := []) ⟨hx, hb, hml, hown, hts⟩ (c_X9_has l dC dI h0 ar ca p1 p2 _ _ _ hc_24 _) (cwV 2 hts gq_X9_say_X9_has_246 rfl rfl rfl (by decide +kernel) ⟨Nat.le_of_ble_eq_true rfl, Nat.le_of_ble_eq_true rfl⟩) ⟨Pr.blind _, va_recv hK hp.1 (ci := 11) (q0 := 0) rfl rfl, r_pre hp hK hN hZ hA⟩ rfl rfl hl.1 rfl (lv_room (Nat.le_of_ble_eq_true rfl)) dX9_say_29 ⟨Nat.le_of_ble_eq_true rfl, Nat.le_of_ble_eq_true rfl⟩) (fun H locs hp => ?_)
      refine lv_if_eq (tgt := 50) hx hb dX9_say_32 (by decide) (fun c_26 => ?_) (fun c_26 => ?_)
      · have hf := pif_t c_26 hf
        refine lv_iconst (v := (-1)) hx hb dX9_say_50 (by decide) ?_
        obtain ⟨e1, e2⟩ := pr_some hf
        exact W.iret (v := (-1)) hx hb hr (fun t ht hW => ⟨⟨(-1), (), rfl, e1, Rp.end e2 hp hK ht hW⟩, hp.2.2.F ht⟩) hp.2.2.2.2 dX9_say_51
      · have hf := pif_f c_26 hf
        refine lv_aload_n hx hb dX9_say_35 rfl (lv_at hl 1 rfl) ?_
        refine r_ga hx hb hts iRX9 hown hK hp 1 (by decide) (by decide) (hts (.fieldLink RX9 13 "RecordBenchModel" "kind" "[I") (by decide +kernel)) dX9_say_36 ?_
        refine lv_bipush (v := 31) hx hb dX9_say_39 (by decide) ?_
        refine lv_iload_n hx hb dX9_say_41 rfl (lv_at hl 3 rfl) ?_
        refine lv_imul hx hb dX9_say_42 ?_
        refine lv_iload_n hx hb dX9_say_43 rfl (lv_at hl 4 rfl) ?_
        refine lv_iadd hx hb dX9_say_44 ?_
        obtain ⟨g_27, hf⟩ := gd_some hf
        refine r_ai (n := 248) hx hb hK hp 1 1 rfl rfl rfl g_27 dX9_say_45 ?_
        refine lv_iconst (v := 5) hx hb dX9_say_46 (by decide) ?_
        refine lv_icmp_eq (tgt := 52) hx hb dX9_say_47 (by decide) (fun c_28 => ?_) (fun c_28 => ?_)
        · have hf := pif_t c_28 hf
          refine lv_aload_n hx hb dX9_say_52 rfl (lv_at hl 1 rfl) ?_
          refine lv_iload_n hx hb dX9_say_53 rfl (lv_at hl 2 rfl) ?_
          refine lv_iload_n hx hb dX9_say_54 rfl (lv_at hl 3 rfl) ?_
          obtain ⟨r_31, st_29, hc_30, hf⟩ := bnd_some hf
          refine r_ci hp hA (va_runV (As := [.int p0, .int p1]) (rest := []) ⟨hx, hb, hml, hown, hts⟩ (c_X9_isRead l dC dI h0 ar ca p0 p1 _ _ _ hc_30 _) (cwV 2 hts gq_X9_say_X9_isRead_308 rfl rfl rfl (by decide +kernel) ⟨Nat.le_of_ble_eq_true rfl, Nat.le_of_ble_eq_true rfl⟩) ⟨Pr.blind _, va_recv hK hp.1 (ci := 11) (q0 := 0) rfl rfl, r_pre hp hK hN hZ hA⟩ rfl rfl hl.1 rfl (lv_room (Nat.le_of_ble_eq_true rfl)) dX9_say_55 ⟨Nat.le_of_ble_eq_true rfl, Nat.le_of_ble_eq_true rfl⟩) (fun H locs hp => ?_)
          refine lv_if_ne (tgt := 64) hx hb dX9_say_58 (by decide) (fun c_32 => ?_) (fun c_32 => ?_)
          · have hf := pif_f c_32 hf
            refine lv_aload_n hx hb dX9_say_64 rfl (lv_at hl 1 rfl) ?_
            refine r_ga hx hb hts iRX9 hown hK hp 9 (by decide) (by decide) (hts (.fieldLink RX9 39 "RecordBenchModel" "tape" "[I") (by decide +kernel)) dX9_say_65 ?_
            refine lv_iconst (v := 0) hx hb dX9_say_68 (by decide) ?_
            refine lv_iload hx hb dX9_say_69 (lv_at hl 0 rfl) ?_
            obtain ⟨r_35, st_33, hc_34, hf⟩ := bnd_some hf
            refine r_ci hp hA (va_runS (As := [.ref (ar 9), .int 0, .int v_13]) (rest := []) ⟨hx, hb, hml, hown, hts⟩ (c_X9_isText_9 l dC dI h0 ar ca 0 v_13 _ _ _ hc_34 _) (cwS 3 hts gq_X9_say_X9_isText_9_281 rfl rfl rfl (by decide +kernel) ⟨Nat.le_of_ble_eq_true rfl, Nat.le_of_ble_eq_true rfl⟩) ⟨Pr.blind _, r_pre hp hK hN hZ hA⟩ rfl rfl hl.1 rfl (lv_room (Nat.le_of_ble_eq_true rfl)) dX9_say_71 ⟨Nat.le_of_ble_eq_true rfl, Nat.le_of_ble_eq_true rfl⟩) (fun H locs hp => ?_)
            refine lv_if_ne (tgt := 80) hx hb dX9_say_74 (by decide) (fun c_36 => ?_) (fun c_36 => ?_)
            · have hf := pif_f c_36 hf
              refine lv_aload_n hx hb dX9_say_80 rfl (lv_at hl 1 rfl) ?_
              refine r_ga hx hb hts iRX9 hown hK hp 53 (by decide) (by decide) (hts (.fieldLink RX9 117 "RecordBenchModel" "laidLong" "[I") (by decide +kernel)) dX9_say_81 ?_
              refine lv_iconst (v := 0) hx hb dX9_say_84 (by decide) ?_
              refine lv_iconst (v := 0) hx hb dX9_say_85 (by decide) ?_
              obtain ⟨g_37, hf⟩ := gd_some hf
              refine r_si (n := 9) hx hb hK hp 24 53 rfl rfl rfl g_37 dX9_say_86 (fun H locs hp => ?_)
              obtain ⟨st_38, est_38, hf⟩ := nam_some hf
              rw [← est_38] at hp
              refine lv_aload_n hx hb dX9_say_87 rfl (lv_at hl 1 rfl) ?_
              refine lv_iconst (v := 0) hx hb dX9_say_88 (by decide) ?_
              refine lv_iconst (v := 2) hx hb dX9_say_89 (by decide) ?_
              refine lv_iload_n hx hb dX9_say_90 rfl (lv_at hl 4 rfl) ?_
              refine lv_imul hx hb dX9_say_91 ?_
              refine lv_iconst (v := 1) hx hb dX9_say_92 (by decide) ?_
              refine lv_iadd hx hb dX9_say_93 ?_
              refine lv_i2l (v := ((2 * p2) + 1).toInt64) hx hb dX9_say_94 rfl ?_
              obtain ⟨st_39, hc_40, hf⟩ := bnv_some hf
              refine r_cv hp hA (va_runV (As := [.int 0, .long (((2 * p2) + 1).toInt64)]) (rest := []) ⟨hx, hb, hml, hown, hts⟩ (c_X9_laysVarint l dC dI h0 ar ca 0 (((2 * p2) + 1).toInt64) _ _ hc_40 _) (cwV 2 hts gq_X9_say_X9_laysVarint_323 rfl rfl rfl (by decide +kernel) ⟨Nat.le_of_ble_eq_true rfl, Nat.le_of_ble_eq_true rfl⟩) ⟨Pr.blind _, va_recv hK hp.1 (ci := 11) (q0 := 0) rfl rfl, r_pre hp hK hN hZ hA⟩ rfl rfl hl.1 rfl (lv_room (Nat.le_of_ble_eq_true rfl)) dX9_say_95 ⟨Nat.le_of_ble_eq_true rfl, Nat.le_of_ble_eq_true rfl⟩) (fun H locs hp => ?_)
              refine lv_aload_n hx hb dX9_say_98 rfl (lv_at hl 1 rfl) ?_
              refine lv_iconst (v := 0) hx hb dX9_say_99 (by decide) ?_
              refine lv_iload hx hb dX9_say_100 (lv_at hl 0 rfl) ?_
              refine lv_i2l (v := v_13.toInt64) hx hb dX9_say_102 rfl ?_
              obtain ⟨st_42, hc_43, hf⟩ := bnv_some hf
              refine r_cv hp hA (va_runV (As := [.int 0, .long v_13.toInt64]) (rest := []) ⟨hx, hb, hml, hown, hts⟩ (c_X9_laysVarint l dC dI h0 ar ca 0 v_13.toInt64 _ _ hc_43 _) (cwV 2 hts gq_X9_say_X9_laysVarint_323 rfl rfl rfl (by decide +kernel) ⟨Nat.le_of_ble_eq_true rfl, Nat.le_of_ble_eq_true rfl⟩) ⟨Pr.blind _, va_recv hK hp.1 (ci := 11) (q0 := 0) rfl rfl, r_pre hp hK hN hZ hA⟩ rfl rfl hl.1 rfl (lv_room (Nat.le_of_ble_eq_true rfl)) dX9_say_103 ⟨Nat.le_of_ble_eq_true rfl, Nat.le_of_ble_eq_true rfl⟩) (fun H locs hp => ?_)
              refine lv_iconst (v := 0) hx hb dX9_say_106 (by decide) ?_
              refine lv_istore (lv' := [(5, .int 0), (4, .int v_13), (0, .ref h0), (1, .int p0), (2, .int p1), (3, .int p2)]) hx hb dX9_say_107 hl (by decide) rfl (fun ls hl => ?_)
              exact J109 fuel (p0, p1, p2, v_13, 0, st_42) _ _ _ ⟨hf, hp, (lv_sub hl [2, 3, 4, 5, 1, 0] rfl)⟩
            · have hf := pif_t c_36 hf
              refine lv_bipush (v := (-3)) hx hb dX9_say_77 (by decide) ?_
              obtain ⟨e1, e2⟩ := pr_some hf
              exact W.iret (v := (-3)) hx hb hr (fun t ht hW => ⟨⟨(-3), (), rfl, e1, Rp.end e2 hp hK ht hW⟩, hp.2.2.F ht⟩) hp.2.2.2.2 dX9_say_79
          · have hf := pif_t c_32 hf
            refine lv_bipush (v := (-2)) hx hb dX9_say_61 (by decide) ?_
            obtain ⟨e1, e2⟩ := pr_some hf
            exact W.iret (v := (-2)) hx hb hr (fun t ht hW => ⟨⟨(-2), (), rfl, e1, Rp.end e2 hp hK ht hW⟩, hp.2.2.F ht⟩) hp.2.2.2.2 dX9_say_63
        · have hf := pif_f c_28 hf
          refine lv_iconst (v := (-1)) hx hb dX9_say_50 (by decide) ?_
          obtain ⟨e1, e2⟩ := pr_some hf
          exact W.iret (v := (-1)) hx hb hr (fun t ht hW => ⟨⟨(-1), (), rfl, e1, Rp.end e2 hp hK ht hW⟩, hp.2.2.F ht⟩) hp.2.2.2.2 dX9_say_51
noncomputable def x9_nest_140  : Nat → Int32 → Int32 → Int32 → Int32 → RS → Option (Int32 × RS)
  | 0 => fun _ _ _ _ _ => none
  | n + 1 => fun l1 l2 l3 l6 st => pif ((gI st 56) ≤ l6) (bnv (x9_keepsFresh st) (fun st_2 => bnd (x9_puts l1 l2 l3 st_2) (fun r_7 st_5 => some (r_7, st_5)))) (gd (vp_in l6 200) (bnv (x9_lays 0 (gF st 55 l6.toNatClampNeg) st) (fun st_9 => nam (l6 + 1) (fun v_12 => (x9_nest_140 n) l1 l2 l3 v_12 st_9))))
theorem x9_nest_140_z  (l1 : Int32) (l2 : Int32) (l3 : Int32) (l6 : Int32) (st : RS) : x9_nest_140  0 l1 l2 l3 l6 st = none := rfl
theorem x9_nest_140_s  (n : Nat) (l1 : Int32) (l2 : Int32) (l3 : Int32) (l6 : Int32) (st : RS) : x9_nest_140  (n + 1) l1 l2 l3 l6 st = pif ((gI st 56) ≤ l6) (bnv (x9_keepsFresh st) (fun st_2 => bnd (x9_puts l1 l2 l3 st_2) (fun r_7 st_5 => some (r_7, st_5)))) (gd (vp_in l6 200) (bnv (x9_lays 0 (gF st 55 l6.toNatClampNeg) st) (fun st_9 => nam (l6 + 1) (fun v_12 => (x9_nest_140 n) l1 l2 l3 v_12 st_9)))) := rfl
noncomputable def x9_nest (p0 : Int32) (p1 : Int32) (p2 : Int32) (p3 : Int32) (st : RS) : Option (Int32 × RS) := bnd (x9_isRecord p0 st) (fun r_15 st_13 => pif (r_15 = 0) (some (((-1) : Int32), st_13)) (bnd (x9_isRecord p3 st_13) (fun r_19 st_17 => pif (r_19 = 0) (some (((-1) : Int32), st_17)) (pif (p0 = p3) (some (((-1) : Int32), st_17)) (bnd (x9_isMake p1 st_17) (fun r_24 st_22 => pif (r_24 = 0) (some (((-1) : Int32), st_22)) (bnd (x9_has p1 p2 st_22) (fun r_28 st_26 => pif (r_28 = 0) (some (((-1) : Int32), st_26)) (gd (vp_in ((31 * p1) + p2) 248) (pif ((gF st_26 1 ((31 * p1) + p2).toNatClampNeg) = 6) (gd (vp_in ((31 * p1) + p2) 248) (nam (gF st_26 3 ((31 * p1) + p2).toNatClampNeg) (fun v_33 => bnd (x9_isRead p0 p1 st_26) (fun r_36 st_34 => pif (r_36 = 0) (some (((-2) : Int32), st_34)) (bnd (x9_isRead p3 v_33 st_34) (fun r_40 st_38 => pif (r_40 = 0) (some (((-2) : Int32), st_38)) (gd (vp_in p3 4) (bnv (x9_writes (gF st_38 29 p3.toNatClampNeg) v_33 st_38) (fun st_43 => bnv (x9_keepsFresh st_43) (fun st_46 => gd (vp_in (0 : Int32) 9) (nam (sF st_46 53 (upd (gF st_46 53) (0 : Int32).toNatClampNeg 0)) (fun st_50 => bnv (x9_laysVarint 0 (((2 * p2) + 1).toInt64) st_50) (fun st_51 => bnv (x9_laysVarint 0 ((gI st_51 56).toInt64) st_51) (fun st_54 => x9_nest_140  fuel p0 p1 p2 0 st_54)))))))))))))) (some (((-1) : Int32), st_26))))))))))))
def wq_X9_nest : List Cond := .code yX9_nest cX9_nest 7 (some .int) :: (([.fieldLink RX9 13 "RecordBenchModel" "kind" "[I", .fieldLink RX9 20 "RecordBenchModel" "inner" "[I", .fieldLink RX9 78 "RecordBenchModel" "long0" "[I", .fieldLink RX9 117 "RecordBenchModel" "laidLong" "[I", .fieldLink RX9 337 "RecordBenchModel" "freshLong" "I", .fieldLink RX9 123 "RecordBenchModel" "fresh" "[I", .methodLink RX9 340 yX9_keepsFresh, .instanceMethod yX9_keepsFresh, .selects RX9 yX9_keepsFresh yX9_keepsFresh, .initialized RX9, .methodLink RX9 343 yX9_puts, .instanceMethod yX9_puts, .selects RX9 yX9_puts yX9_puts, .methodLink RX9 320 yX9_lays, .instanceMethod yX9_lays, .selects RX9 yX9_lays yX9_lays, .methodLink RX9 249 yX9_isRecord, .static yX9_isRecord, .methodLink RX9 239 yX9_isMake, .instanceMethod yX9_isMake, .selects RX9 yX9_isMake yX9_isMake, .methodLink RX9 246 yX9_has, .instanceMethod yX9_has, .selects RX9 yX9_has yX9_has, .methodLink RX9 308 yX9_isRead, .instanceMethod yX9_isRead, .selects RX9 yX9_isRead yX9_isRead, .methodLink RX9 331 yX9_writes, .instanceMethod yX9_writes, .selects RX9 yX9_writes yX9_writes, .methodLink RX9 323 yX9_laysVarint, .instanceMethod yX9_laysVarint, .selects RX9 yX9_laysVarint yX9_laysVarint, .code yX9_keepsFresh cX9_keepsFresh 2 none, .fieldLink RX9 114 "RecordBenchModel" "laid" "[I", .code yX9_puts cX9_puts 11 (some .int), .fieldLink RX9 17 "RecordBenchModel" "group" "[I", .fieldLink RX9 81 "RecordBenchModel" "row" "[I", .fieldLink RX9 278 "RecordBenchModel" "to" "I", .fieldLink RX9 263 "RecordBenchModel" "number" "I", .methodLink RX9 334 yX9_comes, .instanceMethod yX9_comes, .selects RX9 yX9_comes yX9_comes, .methodLink RX9 298 yX9_piece, .instanceMethod yX9_piece, .selects RX9 yX9_piece yX9_piece, .methodLink RX9 302 yX9_loads, .instanceMethod yX9_loads, .selects RX9 yX9_loads yX9_loads, .code yX9_comes cX9_comes 3 none, .fieldLink RX9 75 "RecordBenchModel" "bytes" "[I", .code yX9_lays cX9_lays 3 none, .code yX9_piece cX9_piece 14 none, .fieldLink RX9 260 "RecordBenchModel" "pieceFault" "I", .fieldLink RX9 252 "RecordBenchModel" "varint" "J", .fieldLink RX9 267 "RecordBenchModel" "isLong" "Z", .constantLong RX9 271 (30), .fieldLink RX9 257 "RecordBenchModel" "varintEnd" "I", .fieldLink RX9 273 "RecordBenchModel" "value" "J", .fieldLink RX9 275 "RecordBenchModel" "from" "I", .methodLink RX9 281 yX9_isText, .static yX9_isText, .methodLink RX9 229 yX9_isOf, .static yX9_isOf, .methodLink RX9 265 yX9_varint, .instanceMethod yX9_varint, .selects RX9 yX9_varint yX9_varint, .code yX9_isText cX9_isText 4 (some .boolean), .code yX9_isOf cX9_isOf 3 (some .boolean), .constantLong RX9 219 (-2147483648), .constantLong RX9 221 (2147483647), .constantLong RX9 215 (-128), .constantLong RX9 217 (127), .code yX9_has cX9_has 3 (some .boolean), .fieldLink RX9 36 "RecordBenchModel" "isThere" "[Z", .code yX9_varint cX9_varint 6 (some .boolean), .constantLong RX9 255 (128), .code yX9_loads cX9_loads 3 none, .code yX9_writes cX9_writes 9 none, .fieldLink RX9 102 "RecordBenchModel" "pileAt" "[I", .fieldLink RX9 105 "RecordBenchModel" "pileEnd" "[I", .fieldLink RX9 99 "RecordBenchModel" "pileMake" "[I", .fieldLink RX9 120 "RecordBenchModel" "levelKey" "[I", .methodLink RX9 327 yX9_folded, .static yX9_folded, .methodLink RX9 294 yX9_opens, .instanceMethod yX9_opens, .selects RX9 yX9_opens yX9_opens, .code yX9_laysVarint cX9_laysVarint 6 none, .code yX9_folded cX9_folded 2 (some .long), .code yX9_opens cX9_opens 5 none, .fieldLink RX9 108 "RecordBenchModel" "pileLast" "[I", .fieldLink RX9 111 "RecordBenchModel" "pileGroups" "[I", .code yX9_isRecord cX9_isRecord 1 (some .boolean), .code yX9_isMake cX9_isMake 2 (some .boolean), .fieldLink RX9 7 "RecordBenchModel" "told" "[Z", .code yX9_isRead cX9_isRead 3 (some .boolean), .methodLink RX9 305 yX9_reads, .instanceMethod yX9_reads, .selects RX9 yX9_reads yX9_reads, .code yX9_reads cX9_reads 7 (some .boolean), .fieldLink RX9 285 "RecordBenchModel" "readFault" "I", .fieldLink RX9 288 "RecordBenchModel" "readPlace" "I", .fieldLink RX9 291 "RecordBenchModel" "pieces" "I", .fieldLink RX9 84 "RecordBenchModel" "pieceNumber" "[I", .fieldLink RX9 87 "RecordBenchModel" "pieceBegin" "[I", .fieldLink RX9 90 "RecordBenchModel" "pieceFrom" "[I", .fieldLink RX9 93 "RecordBenchModel" "pieceTo" "[I", .fieldLink RX9 96 "RecordBenchModel" "pieceValue" "[J"] : List Cond) ++ wsX90)
theorem gs_wq_X9_nest_wsX90 : GoodIn wq_X9_nest wsX90 := fun w h => ⟨List.mem_cons_of_mem _ (List.mem_append_right _ h), (gt_wsX90 w h).2⟩
set_option maxRecDepth 20000 in
theorem gq_X9_nest_X9_keepsFresh_340 : GoodIn wq_X9_nest (wsV RX9 340 RX9 yX9_keepsFresh wq_X9_keepsFresh) := goodIn_app (goodIn_r _ [7, 8, 9, 10] rfl rfl) (goodIn_ca (goodIn_r _ [34, 4, 5, 6, 35] rfl rfl) gs_wq_X9_nest_wsX90)
set_option maxRecDepth 20000 in
theorem gq_X9_nest_X9_puts_343 : GoodIn wq_X9_nest (wsV RX9 343 RX9 yX9_puts wq_X9_puts) := goodIn_app (goodIn_r _ [11, 12, 13, 10] rfl rfl) (goodIn_ca (goodIn_r _ [36, 3, 4, 37, 38, 35, 39, 40, 5, 6, 41, 42, 43, 10, 14, 15, 16, 44, 45, 46, 22, 23, 24, 47, 48, 49, 28, 29, 30, 50, 51, 52, 53, 54, 55, 56, 57, 58, 59, 60, 1, 61, 62, 63, 64, 65, 66, 67, 68, 69, 70, 71, 72, 73, 74, 75, 76, 77, 78, 79, 80, 81, 82, 2, 83, 31, 32, 33, 84, 85, 86, 87, 88, 89, 90, 91, 92, 93] rfl rfl) gs_wq_X9_nest_wsX90)
set_option maxRecDepth 20000 in
theorem gq_X9_nest_X9_lays_320 : GoodIn wq_X9_nest (wsV RX9 320 RX9 yX9_lays wq_X9_lays) := goodIn_app (goodIn_r _ [14, 15, 16, 10] rfl rfl) (goodIn_ca (goodIn_r _ [52, 35, 4] rfl rfl) gs_wq_X9_nest_wsX90)
set_option maxRecDepth 20000 in
theorem gq_X9_nest_X9_isRecord_249 : GoodIn wq_X9_nest (wsS RX9 249 yX9_isRecord wq_X9_isRecord) := goodIn_app (goodIn_r _ [17, 18, 10] rfl rfl) (goodIn_r _ [94] rfl rfl)
set_option maxRecDepth 20000 in
theorem gq_X9_nest_X9_isMake_239 : GoodIn wq_X9_nest (wsV RX9 239 RX9 yX9_isMake wq_X9_isMake) := goodIn_app (goodIn_r _ [19, 20, 21, 10] rfl rfl) (goodIn_ca (goodIn_r _ [95, 96] rfl rfl) gs_wq_X9_nest_wsX90)
set_option maxRecDepth 20000 in
theorem gq_X9_nest_X9_has_246 : GoodIn wq_X9_nest (wsV RX9 246 RX9 yX9_has wq_X9_has) := goodIn_app (goodIn_r _ [22, 23, 24, 10] rfl rfl) (goodIn_ca (goodIn_r _ [74, 75, 1] rfl rfl) gs_wq_X9_nest_wsX90)
set_option maxRecDepth 20000 in
theorem gq_X9_nest_X9_isRead_308 : GoodIn wq_X9_nest (wsV RX9 308 RX9 yX9_isRead wq_X9_isRead) := goodIn_app (goodIn_r _ [25, 26, 27, 10] rfl rfl) (goodIn_ca (goodIn_r _ [97, 3, 47, 48, 49, 10, 98, 99, 100, 78, 38, 51, 101, 102, 103, 104, 80, 81, 82, 92, 93, 54, 105, 40, 106, 107, 60, 108, 39, 109, 59, 37, 1, 2, 86, 87, 88, 22, 23, 24, 44, 45, 46, 91, 74, 75, 53, 55, 56, 57, 58, 61, 62, 63, 64, 65, 66, 67, 68, 69, 70, 71, 72, 73, 76, 77] rfl rfl) gs_wq_X9_nest_wsX90)
set_option maxRecDepth 20000 in
theorem gq_X9_nest_X9_writes_331 : GoodIn wq_X9_nest (wsV RX9 331 RX9 yX9_writes wq_X9_writes) := goodIn_app (goodIn_r _ [28, 29, 30, 10] rfl rfl) (goodIn_ca (goodIn_r _ [79, 4, 80, 81, 82, 39, 40, 1, 59, 60, 2, 83, 35, 38, 14, 15, 16, 10, 31, 32, 33, 44, 45, 46, 22, 23, 24, 84, 85, 86, 87, 88, 52, 89, 73, 53, 54, 55, 56, 57, 58, 37, 61, 62, 63, 64, 65, 66, 67, 68, 69, 70, 71, 72, 74, 75, 76, 77, 90, 91, 92, 93] rfl rfl) gs_wq_X9_nest_wsX90)
set_option maxRecDepth 20000 in
theorem gq_X9_nest_X9_laysVarint_323 : GoodIn wq_X9_nest (wsV RX9 323 RX9 yX9_laysVarint wq_X9_laysVarint) := goodIn_app (goodIn_r _ [31, 32, 33, 10] rfl rfl) (goodIn_ca (goodIn_r _ [89, 73, 14, 15, 16, 10, 52, 35, 4] rfl rfl) gs_wq_X9_nest_wsX90)
set_option maxHeartbeats 4000000 in
set_option maxRecDepth 100000 in
theorem c_X9_nest (l : Launch) (dC : Nat → ClassId) (dI : Nat → Nat → Nat) (h0 : Nat) (ar : Nat → Nat) (ca : Nat → ClassId) (p0 : Int32) (p1 : Int32) (p2 : Int32) (p3 : Int32) (st st' : RS) (r : Int32) (hf : x9_nest p0 p1 p2 p3 st = some (r, st')) (sz : Nat) : Met l yX9_nest wq_X9_nest ({ frames := 4, cells := 0, slots := 0, locals := 132 }) (va_Pc [.ref h0, .int p0, .int p1, .int p2, .int p3] (Pr (dC, dI) (rT ca) [] (RW h0 ar ca st) sz)) (va_Qi (fun r' (_ : Unit) => r' = r) (Bq (dC, dI) (fun _ => RW h0 ar ca st') (fun _ => []) (va_A (RW h0 ar ca st) sz)) (va_A (RW h0 ar ca st) sz)) 0 0 (va_A (RW h0 ar ca st) sz) := by
  refine Met.ofW (cc := cX9_nest) (maxL := 7) (ret := (some .int)) (by decide) rfl ?_
  intro p e s m args below meth c s₁ B hml hv
  obtain ⟨rfl, hsz, hP, hK, hD0, hN, hZ, hR⟩ := hv
  have hx := B.exec
  have hb := B.bytes
  have hr := B.returns
  have hts := atoms_spec (ws := wq_X9_nest) B.pre
  have hown : s.vm.findClass RX9 = some m.cls := findClass_of_methodNamed B.named
  have iRX9 : ∀ w ∈ u_ws RX9 TX9 60, w ∈ wq_X9_nest := fun w h => List.mem_cons_of_mem _ (List.mem_append_right _ h)
  subst hsz
  have hp : Rp (dC, dI) h0 ar ca (va_A (RW h0 ar ca st) s.heap.size) s.heap st s.heap [] := ⟨hP, hD0.self, va_S.rf⟩
  generalize hAe : va_A (RW h0 ar ca st) s.heap.size = A at hp hZ ⊢
  have hA : ∀ q : Nat, s.heap.size ≤ q → A q := fun q h => by rw [← hAe]; exact Or.inr h
  have hl := lv_entry ([.ref h0, .int p0, .int p1, .int p2, .int p3]) (n := 7) (Nat.le_of_ble_eq_true rfl)
  rw [lg_entry_eq]
  generalize (lg_sl ([.ref h0, .int p0, .int p1, .int p2, .int p3]) ++ List.replicate (7 - (lg_sl ([.ref h0, .int p0, .int p1, .int p2, .int p3])).length) Slot.unset).toArray = ls at hl ⊢
  have hl : lv_has ls 7 [(0, .ref h0), (1, .int p0), (2, .int p1), (3, .int p2), (4, .int p3)] := hl
  refine W_lp (fun n140 (u : Int32 × Int32 × Int32 × Int32 × RS) H locs ls => match u with | (l1, l2, l3, l6, st) => x9_nest_140 n140 l1 l2 l3 l6 st = some (r, st') ∧ Rp (dC, dI) h0 ar ca A s.heap st H locs ∧ lv_has ls 7 [(0, .ref h0), (1, .int l1), (2, .int l2), (3, .int l3), (6, .int l6)]) (fun (u : Int32 × Int32 × Int32 × Int32 × RS) ls => match u with | (l1, l2, l3, l6, st) => F0 m 140 ls []) ?_ ?_ (fun J140 => ?_)
  · intro u H locs ls hu
    obtain ⟨l1, l2, l3, l6, st⟩ := u
    obtain ⟨hf, hp, hl⟩ := hu
    rw [x9_nest_140_z] at hf
    cases hf
  · intro n140 ih140 u H locs ls hu
    obtain ⟨l1, l2, l3, l6, st⟩ := u
    obtain ⟨hf, hp, hl⟩ := hu
    show W p l e _ s m _ below meth c _ _ _ _ _ (F0 m 140 ls [])
    rw [x9_nest_140_s] at hf
    refine lv_iload hx hb dX9_nest_140 (lv_at hl 4 rfl) ?_
    refine lv_aload_n hx hb dX9_nest_142 rfl (lv_at hl 0 rfl) ?_
    refine r_gi hx hb hts iRX9 hown hK hp 56 (by decide) rfl (hts (.fieldLink RX9 337 "RecordBenchModel" "freshLong" "I") (by decide +kernel)) dX9_nest_143 ?_
    refine lv_icmp_ge (tgt := 167) hx hb dX9_nest_146 (by decide) (fun c_1 => ?_) (fun c_1 => ?_)
    · have hf := pif_t c_1 hf
      refine lv_aload_n hx hb dX9_nest_167 rfl (lv_at hl 0 rfl) ?_
      obtain ⟨st_2, hc_3, hf⟩ := bnv_some hf
      refine r_cv hp hA (va_runV (As := []) (rest := []) ⟨hx, hb, hml, hown, hts⟩ (c_X9_keepsFresh l dC dI h0 ar ca  _ _ hc_3 _) (cwV 0 hts gq_X9_nest_X9_keepsFresh_340 rfl rfl rfl (by decide +kernel) ⟨Nat.le_of_ble_eq_true rfl, Nat.le_of_ble_eq_true rfl⟩) ⟨Pr.blind _, va_recv hK hp.1 (ci := 11) (q0 := 0) rfl rfl, r_pre hp hK hN hZ hA⟩ rfl rfl hl.1 rfl (lv_room (Nat.le_of_ble_eq_true rfl)) dX9_nest_168 ⟨Nat.le_of_ble_eq_true rfl, Nat.le_of_ble_eq_true rfl⟩) (fun H locs hp => ?_)
      refine lv_aload_n hx hb dX9_nest_171 rfl (lv_at hl 0 rfl) ?_
      refine lv_iload_n hx hb dX9_nest_172 rfl (lv_at hl 1 rfl) ?_
      refine lv_iload_n hx hb dX9_nest_173 rfl (lv_at hl 2 rfl) ?_
      refine lv_iload_n hx hb dX9_nest_174 rfl (lv_at hl 3 rfl) ?_
      obtain ⟨r_7, st_5, hc_6, hf⟩ := bnd_some hf
      refine r_ci hp hA (va_runV (As := [.int l1, .int l2, .int l3]) (rest := []) ⟨hx, hb, hml, hown, hts⟩ (c_X9_puts l dC dI h0 ar ca l1 l2 l3 _ _ _ hc_6 _) (cwV 3 hts gq_X9_nest_X9_puts_343 rfl rfl rfl (by decide +kernel) ⟨Nat.le_of_ble_eq_true rfl, Nat.le_of_ble_eq_true rfl⟩) ⟨Pr.blind _, va_recv hK hp.1 (ci := 11) (q0 := 0) rfl rfl, r_pre hp hK hN hZ hA⟩ rfl rfl hl.1 rfl (lv_room (Nat.le_of_ble_eq_true rfl)) dX9_nest_175 ⟨Nat.le_of_ble_eq_true rfl, Nat.le_of_ble_eq_true rfl⟩) (fun H locs hp => ?_)
      obtain ⟨e1, e2⟩ := pr_some hf
      exact W.iret (v := r_7) hx hb hr (fun t ht hW => ⟨⟨r_7, (), rfl, e1, Rp.end e2 hp hK ht hW⟩, hp.2.2.F ht⟩) hp.2.2.2.2 dX9_nest_178
    · have hf := pif_f c_1 hf
      refine lv_aload_n hx hb dX9_nest_149 rfl (lv_at hl 0 rfl) ?_
      refine lv_iconst (v := 0) hx hb dX9_nest_150 (by decide) ?_
      refine lv_aload_n hx hb dX9_nest_151 rfl (lv_at hl 0 rfl) ?_
      refine r_ga hx hb hts iRX9 hown hK hp 55 (by decide) (by decide) (hts (.fieldLink RX9 123 "RecordBenchModel" "fresh" "[I") (by decide +kernel)) dX9_nest_152 ?_
      refine lv_iload hx hb dX9_nest_155 (lv_at hl 4 rfl) ?_
      obtain ⟨g_8, hf⟩ := gd_some hf
      refine r_ai (n := 200) hx hb hK hp 26 55 rfl rfl rfl g_8 dX9_nest_157 ?_
      obtain ⟨st_9, hc_10, hf⟩ := bnv_some hf
      refine r_cv hp hA (va_runV (As := [.int 0, .int (gF st 55 l6.toNatClampNeg)]) (rest := []) ⟨hx, hb, hml, hown, hts⟩ (c_X9_lays l dC dI h0 ar ca 0 (gF st 55 l6.toNatClampNeg) _ _ hc_10 _) (cwV 2 hts gq_X9_nest_X9_lays_320 rfl rfl rfl (by decide +kernel) ⟨Nat.le_of_ble_eq_true rfl, Nat.le_of_ble_eq_true rfl⟩) ⟨Pr.blind _, va_recv hK hp.1 (ci := 11) (q0 := 0) rfl rfl, r_pre hp hK hN hZ hA⟩ rfl rfl hl.1 rfl (lv_room (Nat.le_of_ble_eq_true rfl)) dX9_nest_158 ⟨Nat.le_of_ble_eq_true rfl, Nat.le_of_ble_eq_true rfl⟩) (fun H locs hp => ?_)
      obtain ⟨v_12, ev_12, hf⟩ := nam_some hf
      refine lv_iinc (v := v_12) (lv' := [(6, .int v_12), (0, .ref h0), (1, .int l1), (2, .int l2), (3, .int l3)]) hx hb dX9_nest_161 hl (k := 4) rfl ev_12.symm (by decide) rfl (fun ls hl => ?_)
      refine lv_goto (tgt := 140) hx hb dX9_nest_164 (by decide) ?_
      exact ih140 (l1, l2, l3, v_12, st_9) _ _ _ ⟨hf, hp, (lv_sub hl [1, 2, 3, 4, 0] rfl)⟩
  unfold x9_nest at hf
  refine lv_iload_n hx hb dX9_nest_0 rfl (lv_at hl 1 rfl) ?_
  obtain ⟨r_15, st_13, hc_14, hf⟩ := bnd_some hf
  refine r_ci hp hA (va_runS (As := [.int p0]) (rest := []) ⟨hx, hb, hml, hown, hts⟩ (c_X9_isRecord l dC dI h0 ar ca p0 _ _ _ hc_14 _) (cwS 1 hts gq_X9_nest_X9_isRecord_249 rfl rfl rfl (by decide +kernel) ⟨Nat.le_of_ble_eq_true rfl, Nat.le_of_ble_eq_true rfl⟩) ⟨Pr.blind _, r_pre hp hK hN hZ hA⟩ rfl rfl hl.1 rfl (lv_room (Nat.le_of_ble_eq_true rfl)) dX9_nest_1 ⟨Nat.le_of_ble_eq_true rfl, Nat.le_of_ble_eq_true rfl⟩) (fun H locs hp => ?_)
  refine lv_if_eq (tgt := 54) hx hb dX9_nest_4 (by decide) (fun c_16 => ?_) (fun c_16 => ?_)
  · have hf := pif_t c_16 hf
    refine lv_iconst (v := (-1)) hx hb dX9_nest_54 (by decide) ?_
    obtain ⟨e1, e2⟩ := pr_some hf
    exact W.iret (v := (-1)) hx hb hr (fun t ht hW => ⟨⟨(-1), (), rfl, e1, Rp.end e2 hp hK ht hW⟩, hp.2.2.F ht⟩) hp.2.2.2.2 dX9_nest_55
  · have hf := pif_f c_16 hf
    refine lv_iload hx hb dX9_nest_7 (lv_at hl 4 rfl) ?_
    obtain ⟨r_19, st_17, hc_18, hf⟩ := bnd_some hf
    refine r_ci hp hA (va_runS (As := [.int p3]) (rest := []) ⟨hx, hb, hml, hown, hts⟩ (c_X9_isRecord l dC dI h0 ar ca p3 _ _ _ hc_18 _) (cwS 1 hts gq_X9_nest_X9_isRecord_249 rfl rfl rfl (by decide +kernel) ⟨Nat.le_of_ble_eq_true rfl, Nat.le_of_ble_eq_true rfl⟩) ⟨Pr.blind _, r_pre hp hK hN hZ hA⟩ rfl rfl hl.1 rfl (lv_room (Nat.le_of_ble_eq_true rfl)) dX9_nest_9 ⟨Nat.le_of_ble_eq_true rfl, Nat.le_of_ble_eq_true rfl⟩) (fun H locs hp => ?_)
    refine lv_if_eq (tgt := 54) hx hb dX9_nest_12 (by decide) (fun c_20 => ?_) (fun c_20 => ?_)
    · have hf := pif_t c_20 hf
      refine lv_iconst (v := (-1)) hx hb dX9_nest_54 (by decide) ?_
      obtain ⟨e1, e2⟩ := pr_some hf
      exact W.iret (v := (-1)) hx hb hr (fun t ht hW => ⟨⟨(-1), (), rfl, e1, Rp.end e2 hp hK ht hW⟩, hp.2.2.F ht⟩) hp.2.2.2.2 dX9_nest_55
    · have hf := pif_f c_20 hf
      refine lv_iload_n hx hb dX9_nest_15 rfl (lv_at hl 1 rfl) ?_
      refine lv_iload hx hb dX9_nest_16 (lv_at hl 4 rfl) ?_
      refine lv_icmp_eq (tgt := 54) hx hb dX9_nest_18 (by decide) (fun c_21 => ?_) (fun c_21 => ?_)
      · have hf := pif_t c_21 hf
        refine lv_iconst (v := (-1)) hx hb dX9_nest_54 (by decide) ?_
        obtain ⟨e1, e2⟩ := pr_some hf
        exact W.iret (v := (-1)) hx hb hr (fun t ht hW => ⟨⟨(-1), (), rfl, e1, Rp.end e2 hp hK ht hW⟩, hp.2.2.F ht⟩) hp.2.2.2.2 dX9_nest_55
      · have hf := pif_f c_21 hf
        refine lv_aload_n hx hb dX9_nest_21 rfl (lv_at hl 0 rfl) ?_
        refine lv_iload_n hx hb dX9_nest_22 rfl (lv_at hl 2 rfl) ?_
        obtain ⟨r_24, st_22, hc_23, hf⟩ := bnd_some hf
        refine r_ci hp hA (va_runV (As := [.int p1]) (rest := []) ⟨hx, hb, hml, hown, hts⟩ (c_X9_isMake l dC dI h0 ar ca p1 _ _ _ hc_23 _) (cwV 1 hts gq_X9_nest_X9_isMake_239 rfl rfl rfl (by decide +kernel) ⟨Nat.le_of_ble_eq_true rfl, Nat.le_of_ble_eq_true rfl⟩) ⟨Pr.blind _, va_recv hK hp.1 (ci := 11) (q0 := 0) rfl rfl, r_pre hp hK hN hZ hA⟩ rfl rfl hl.1 rfl (lv_room (Nat.le_of_ble_eq_true rfl)) dX9_nest_23 ⟨Nat.le_of_ble_eq_true rfl, Nat.le_of_ble_eq_true rfl⟩) (fun H locs hp => ?_)
        refine lv_if_eq (tgt := 54) hx hb dX9_nest_26 (by decide) (fun c_25 => ?_) (fun c_25 => ?_)
        · have hf := pif_t c_25 hf
          refine lv_iconst (v := (-1)) hx hb dX9_nest_54 (by decide) ?_
          obtain ⟨e1, e2⟩ := pr_some hf
          exact W.iret (v := (-1)) hx hb hr (fun t ht hW => ⟨⟨(-1), (), rfl, e1, Rp.end e2 hp hK ht hW⟩, hp.2.2.F ht⟩) hp.2.2.2.2 dX9_nest_55
        · have hf := pif_f c_25 hf
          refine lv_aload_n hx hb dX9_nest_29 rfl (lv_at hl 0 rfl) ?_
          refine lv_iload_n hx hb dX9_nest_30 rfl (lv_at hl 2 rfl) ?_
          refine lv_iload_n hx hb dX9_nest_31 rfl (lv_at hl 3 rfl) ?_
          obtain ⟨r_28, st_26, hc_27, hf⟩ := bnd_some hf
          refine r_ci hp hA (va_runV (As := [.int p1, .int p2]) (rest := []) ⟨hx, hb, hml, hown, hts⟩ (c_X9_has l dC dI h0 ar ca p1 p2 _ _ _ hc_27 _) (cwV 2 hts gq_X9_nest_X9_has_246 rfl rfl rfl (by decide +kernel) ⟨Nat.le_of_ble_eq_true rfl, Nat.le_of_ble_eq_true rfl⟩) ⟨Pr.blind _, va_recv hK hp.1 (ci := 11) (q0 := 0) rfl rfl, r_pre hp hK hN hZ hA⟩ rfl rfl hl.1 rfl (lv_room (Nat.le_of_ble_eq_true rfl)) dX9_nest_32 ⟨Nat.le_of_ble_eq_true rfl, Nat.le_of_ble_eq_true rfl⟩) (fun H locs hp => ?_)
          refine lv_if_eq (tgt := 54) hx hb dX9_nest_35 (by decide) (fun c_29 => ?_) (fun c_29 => ?_)
          · have hf := pif_t c_29 hf
            refine lv_iconst (v := (-1)) hx hb dX9_nest_54 (by decide) ?_
            obtain ⟨e1, e2⟩ := pr_some hf
            exact W.iret (v := (-1)) hx hb hr (fun t ht hW => ⟨⟨(-1), (), rfl, e1, Rp.end e2 hp hK ht hW⟩, hp.2.2.F ht⟩) hp.2.2.2.2 dX9_nest_55
          · have hf := pif_f c_29 hf
            refine lv_aload_n hx hb dX9_nest_38 rfl (lv_at hl 0 rfl) ?_
            refine r_ga hx hb hts iRX9 hown hK hp 1 (by decide) (by decide) (hts (.fieldLink RX9 13 "RecordBenchModel" "kind" "[I") (by decide +kernel)) dX9_nest_39 ?_
            refine lv_bipush (v := 31) hx hb dX9_nest_42 (by decide) ?_
            refine lv_iload_n hx hb dX9_nest_44 rfl (lv_at hl 2 rfl) ?_
            refine lv_imul hx hb dX9_nest_45 ?_
            refine lv_iload_n hx hb dX9_nest_46 rfl (lv_at hl 3 rfl) ?_
            refine lv_iadd hx hb dX9_nest_47 ?_
            obtain ⟨g_30, hf⟩ := gd_some hf
            refine r_ai (n := 248) hx hb hK hp 1 1 rfl rfl rfl g_30 dX9_nest_48 ?_
            refine lv_bipush (v := 6) hx hb dX9_nest_49 (by decide) ?_
            refine lv_icmp_eq (tgt := 56) hx hb dX9_nest_51 (by decide) (fun c_31 => ?_) (fun c_31 => ?_)
            · have hf := pif_t c_31 hf
              refine lv_aload_n hx hb dX9_nest_56 rfl (lv_at hl 0 rfl) ?_
              refine r_ga hx hb hts iRX9 hown hK hp 3 (by decide) (by decide) (hts (.fieldLink RX9 20 "RecordBenchModel" "inner" "[I") (by decide +kernel)) dX9_nest_57 ?_
              refine lv_bipush (v := 31) hx hb dX9_nest_60 (by decide) ?_
              refine lv_iload_n hx hb dX9_nest_62 rfl (lv_at hl 2 rfl) ?_
              refine lv_imul hx hb dX9_nest_63 ?_
              refine lv_iload_n hx hb dX9_nest_64 rfl (lv_at hl 3 rfl) ?_
              refine lv_iadd hx hb dX9_nest_65 ?_
              obtain ⟨g_32, hf⟩ := gd_some hf
              refine r_ai (n := 248) hx hb hK hp 3 3 rfl rfl rfl g_32 dX9_nest_66 ?_
              obtain ⟨v_33, ev_33, hf⟩ := nam_some hf
              refine W_toi (y := v_33) ev_33.symm ?_
              refine lv_istore (lv' := [(5, .int v_33), (0, .ref h0), (1, .int p0), (2, .int p1), (3, .int p2), (4, .int p3)]) hx hb dX9_nest_67 hl (by decide) rfl (fun ls hl => ?_)
              refine lv_aload_n hx hb dX9_nest_69 rfl (lv_at hl 1 rfl) ?_
              refine lv_iload_n hx hb dX9_nest_70 rfl (lv_at hl 2 rfl) ?_
              refine lv_iload_n hx hb dX9_nest_71 rfl (lv_at hl 3 rfl) ?_
              obtain ⟨r_36, st_34, hc_35, hf⟩ := bnd_some hf
              refine r_ci hp hA (va_runV (As := [.int p0, .int p1]) (rest := []) ⟨hx, hb, hml, hown, hts⟩ (c_X9_isRead l dC dI h0 ar ca p0 p1 _ _ _ hc_35 _) (cwV 2 hts gq_X9_nest_X9_isRead_308 rfl rfl rfl (by decide +kernel) ⟨Nat.le_of_ble_eq_true rfl, Nat.le_of_ble_eq_true rfl⟩) ⟨Pr.blind _, va_recv hK hp.1 (ci := 11) (q0 := 0) rfl rfl, r_pre hp hK hN hZ hA⟩ rfl rfl hl.1 rfl (lv_room (Nat.le_of_ble_eq_true rfl)) dX9_nest_72 ⟨Nat.le_of_ble_eq_true rfl, Nat.le_of_ble_eq_true rfl⟩) (fun H locs hp => ?_)
              refine lv_if_eq (tgt := 89) hx hb dX9_nest_75 (by decide) (fun c_37 => ?_) (fun c_37 => ?_)
              · have hf := pif_t c_37 hf
                refine lv_bipush (v := (-2)) hx hb dX9_nest_89 (by decide) ?_
                obtain ⟨e1, e2⟩ := pr_some hf
                exact W.iret (v := (-2)) hx hb hr (fun t ht hW => ⟨⟨(-2), (), rfl, e1, Rp.end e2 hp hK ht hW⟩, hp.2.2.F ht⟩) hp.2.2.2.2 dX9_nest_91
              · have hf := pif_f c_37 hf
                refine lv_aload_n hx hb dX9_nest_78 rfl (lv_at hl 1 rfl) ?_
                refine lv_iload hx hb dX9_nest_79 (lv_at hl 5 rfl) ?_
                refine lv_iload hx hb dX9_nest_81 (lv_at hl 0 rfl) ?_
                obtain ⟨r_40, st_38, hc_39, hf⟩ := bnd_some hf
                refine r_ci hp hA (va_runV (As := [.int p3, .int v_33]) (rest := []) ⟨hx, hb, hml, hown, hts⟩ (c_X9_isRead l dC dI h0 ar ca p3 v_33 _ _ _ hc_39 _) (cwV 2 hts gq_X9_nest_X9_isRead_308 rfl rfl rfl (by decide +kernel) ⟨Nat.le_of_ble_eq_true rfl, Nat.le_of_ble_eq_true rfl⟩) ⟨Pr.blind _, va_recv hK hp.1 (ci := 11) (q0 := 0) rfl rfl, r_pre hp hK hN hZ hA⟩ rfl rfl hl.1 rfl (lv_room (Nat.le_of_ble_eq_true rfl)) dX9_nest_83 ⟨Nat.le_of_ble_eq_true rfl, Nat.le_of_ble_eq_true rfl⟩) (fun H locs hp => ?_)
                refine lv_if_ne (tgt := 92) hx hb dX9_nest_86 (by decide) (fun c_41 => ?_) (fun c_41 => ?_)
                · have hf := pif_f c_41 hf
                  refine lv_aload_n hx hb dX9_nest_92 rfl (lv_at hl 1 rfl) ?_
                  refine lv_aload_n hx hb dX9_nest_93 rfl (lv_at hl 1 rfl) ?_
                  refine r_ga hx hb hts iRX9 hown hK hp 29 (by decide) (by decide) (hts (.fieldLink RX9 78 "RecordBenchModel" "long0" "[I") (by decide +kernel)) dX9_nest_94 ?_
                  refine lv_iload hx hb dX9_nest_97 (lv_at hl 5 rfl) ?_
                  obtain ⟨g_42, hf⟩ := gd_some hf
                  refine r_ai (n := 4) hx hb hK hp 11 29 rfl rfl rfl g_42 dX9_nest_99 ?_
                  refine lv_iload hx hb dX9_nest_100 (lv_at hl 0 rfl) ?_
                  obtain ⟨st_43, hc_44, hf⟩ := bnv_some hf
                  refine r_cv hp hA (va_runV (As := [.int (gF st_38 29 p3.toNatClampNeg), .int v_33]) (rest := []) ⟨hx, hb, hml, hown, hts⟩ (c_X9_writes l dC dI h0 ar ca (gF st_38 29 p3.toNatClampNeg) v_33 _ _ hc_44 _) (cwV 2 hts gq_X9_nest_X9_writes_331 rfl rfl rfl (by decide +kernel) ⟨Nat.le_of_ble_eq_true rfl, Nat.le_of_ble_eq_true rfl⟩) ⟨Pr.blind _, va_recv hK hp.1 (ci := 11) (q0 := 0) rfl rfl, r_pre hp hK hN hZ hA⟩ rfl rfl hl.1 rfl (lv_room (Nat.le_of_ble_eq_true rfl)) dX9_nest_102 ⟨Nat.le_of_ble_eq_true rfl, Nat.le_of_ble_eq_true rfl⟩) (fun H locs hp => ?_)
                  refine lv_aload_n hx hb dX9_nest_105 rfl (lv_at hl 1 rfl) ?_
                  obtain ⟨st_46, hc_47, hf⟩ := bnv_some hf
                  refine r_cv hp hA (va_runV (As := []) (rest := []) ⟨hx, hb, hml, hown, hts⟩ (c_X9_keepsFresh l dC dI h0 ar ca  _ _ hc_47 _) (cwV 0 hts gq_X9_nest_X9_keepsFresh_340 rfl rfl rfl (by decide +kernel) ⟨Nat.le_of_ble_eq_true rfl, Nat.le_of_ble_eq_true rfl⟩) ⟨Pr.blind _, va_recv hK hp.1 (ci := 11) (q0 := 0) rfl rfl, r_pre hp hK hN hZ hA⟩ rfl rfl hl.1 rfl (lv_room (Nat.le_of_ble_eq_true rfl)) dX9_nest_106 ⟨Nat.le_of_ble_eq_true rfl, Nat.le_of_ble_eq_true rfl⟩) (fun H locs hp => ?_)
                  refine lv_aload_n hx hb dX9_nest_109 rfl (lv_at hl 1 rfl) ?_
                  refine r_ga hx hb hts iRX9 hown hK hp 53 (by decide) (by decide) (hts (.fieldLink RX9 117 "RecordBenchModel" "laidLong" "[I") (by decide +kernel)) dX9_nest_110 ?_
                  refine lv_iconst (v := 0) hx hb dX9_nest_113 (by decide) ?_
                  refine lv_iconst (v := 0) hx hb dX9_nest_114 (by decide) ?_
                  obtain ⟨g_49, hf⟩ := gd_some hf
                  refine r_si (n := 9) hx hb hK hp 24 53 rfl rfl rfl g_49 dX9_nest_115 (fun H locs hp => ?_)
                  obtain ⟨st_50, est_50, hf⟩ := nam_some hf
                  rw [← est_50] at hp
                  refine lv_aload_n hx hb dX9_nest_116 rfl (lv_at hl 1 rfl) ?_
                  refine lv_iconst (v := 0) hx hb dX9_nest_117 (by decide) ?_
                  refine lv_iconst (v := 2) hx hb dX9_nest_118 (by decide) ?_
                  refine lv_iload_n hx hb dX9_nest_119 rfl (lv_at hl 4 rfl) ?_
                  refine lv_imul hx hb dX9_nest_120 ?_
                  refine lv_iconst (v := 1) hx hb dX9_nest_121 (by decide) ?_
                  refine lv_iadd hx hb dX9_nest_122 ?_
                  refine lv_i2l (v := ((2 * p2) + 1).toInt64) hx hb dX9_nest_123 rfl ?_
                  obtain ⟨st_51, hc_52, hf⟩ := bnv_some hf
                  refine r_cv hp hA (va_runV (As := [.int 0, .long (((2 * p2) + 1).toInt64)]) (rest := []) ⟨hx, hb, hml, hown, hts⟩ (c_X9_laysVarint l dC dI h0 ar ca 0 (((2 * p2) + 1).toInt64) _ _ hc_52 _) (cwV 2 hts gq_X9_nest_X9_laysVarint_323 rfl rfl rfl (by decide +kernel) ⟨Nat.le_of_ble_eq_true rfl, Nat.le_of_ble_eq_true rfl⟩) ⟨Pr.blind _, va_recv hK hp.1 (ci := 11) (q0 := 0) rfl rfl, r_pre hp hK hN hZ hA⟩ rfl rfl hl.1 rfl (lv_room (Nat.le_of_ble_eq_true rfl)) dX9_nest_124 ⟨Nat.le_of_ble_eq_true rfl, Nat.le_of_ble_eq_true rfl⟩) (fun H locs hp => ?_)
                  refine lv_aload_n hx hb dX9_nest_127 rfl (lv_at hl 1 rfl) ?_
                  refine lv_iconst (v := 0) hx hb dX9_nest_128 (by decide) ?_
                  refine lv_aload_n hx hb dX9_nest_129 rfl (lv_at hl 1 rfl) ?_
                  refine r_gi hx hb hts iRX9 hown hK hp 56 (by decide) rfl (hts (.fieldLink RX9 337 "RecordBenchModel" "freshLong" "I") (by decide +kernel)) dX9_nest_130 ?_
                  refine lv_i2l (v := (gI st_51 56).toInt64) hx hb dX9_nest_133 rfl ?_
                  obtain ⟨st_54, hc_55, hf⟩ := bnv_some hf
                  refine r_cv hp hA (va_runV (As := [.int 0, .long ((gI st_51 56).toInt64)]) (rest := []) ⟨hx, hb, hml, hown, hts⟩ (c_X9_laysVarint l dC dI h0 ar ca 0 ((gI st_51 56).toInt64) _ _ hc_55 _) (cwV 2 hts gq_X9_nest_X9_laysVarint_323 rfl rfl rfl (by decide +kernel) ⟨Nat.le_of_ble_eq_true rfl, Nat.le_of_ble_eq_true rfl⟩) ⟨Pr.blind _, va_recv hK hp.1 (ci := 11) (q0 := 0) rfl rfl, r_pre hp hK hN hZ hA⟩ rfl rfl hl.1 rfl (lv_room (Nat.le_of_ble_eq_true rfl)) dX9_nest_134 ⟨Nat.le_of_ble_eq_true rfl, Nat.le_of_ble_eq_true rfl⟩) (fun H locs hp => ?_)
                  refine lv_iconst (v := 0) hx hb dX9_nest_137 (by decide) ?_
                  refine lv_istore (lv' := [(6, .int 0), (5, .int v_33), (0, .ref h0), (1, .int p0), (2, .int p1), (3, .int p2), (4, .int p3)]) hx hb dX9_nest_138 hl (by decide) rfl (fun ls hl => ?_)
                  exact J140 fuel (p0, p1, p2, 0, st_54) _ _ _ ⟨hf, hp, (lv_sub hl [2, 3, 4, 5, 0] rfl)⟩
                · have hf := pif_t c_41 hf
                  refine lv_bipush (v := (-2)) hx hb dX9_nest_89 (by decide) ?_
                  obtain ⟨e1, e2⟩ := pr_some hf
                  exact W.iret (v := (-2)) hx hb hr (fun t ht hW => ⟨⟨(-2), (), rfl, e1, Rp.end e2 hp hK ht hW⟩, hp.2.2.F ht⟩) hp.2.2.2.2 dX9_nest_91
            · have hf := pif_f c_31 hf
              refine lv_iconst (v := (-1)) hx hb dX9_nest_54 (by decide) ?_
              obtain ⟨e1, e2⟩ := pr_some hf
              exact W.iret (v := (-1)) hx hb hr (fun t ht hW => ⟨⟨(-1), (), rfl, e1, Rp.end e2 hp hK ht hW⟩, hp.2.2.F ht⟩) hp.2.2.2.2 dX9_nest_55
noncomputable def x9_drop (p0 : Int32) (p1 : Int32) (p2 : Int32) (st : RS) : Option (Int32 × RS) := bnd (x9_isRecord p0 st) (fun r_3 st_1 => pif (r_3 = 0) (some (((-1) : Int32), st_1)) (bnd (x9_isMake p1 st_1) (fun r_7 st_5 => pif (r_7 = 0) (some (((-1) : Int32), st_5)) (bnd (x9_has p1 p2 st_5) (fun r_11 st_9 => pif (r_11 = 0) (some (((-1) : Int32), st_9)) (bnd (x9_isRead p0 p1 st_9) (fun r_15 st_13 => pif (r_15 = 0) (some (((-2) : Int32), st_13)) (nam (sI st_13 56 0) (fun st_17 => bnd (x9_puts p0 p1 p2 st_17) (fun r_20 st_18 => some (r_20, st_18)))))))))))
def wq_X9_drop : List Cond := .code yX9_drop cX9_drop 4 (some .int) :: (([.fieldLink RX9 337 "RecordBenchModel" "freshLong" "I", .methodLink RX9 249 yX9_isRecord, .static yX9_isRecord, .initialized RX9, .methodLink RX9 239 yX9_isMake, .instanceMethod yX9_isMake, .selects RX9 yX9_isMake yX9_isMake, .methodLink RX9 246 yX9_has, .instanceMethod yX9_has, .selects RX9 yX9_has yX9_has, .methodLink RX9 308 yX9_isRead, .instanceMethod yX9_isRead, .selects RX9 yX9_isRead yX9_isRead, .methodLink RX9 343 yX9_puts, .instanceMethod yX9_puts, .selects RX9 yX9_puts yX9_puts, .code yX9_isRecord cX9_isRecord 1 (some .boolean), .code yX9_isMake cX9_isMake 2 (some .boolean), .fieldLink RX9 7 "RecordBenchModel" "told" "[Z", .code yX9_has cX9_has 3 (some .boolean), .fieldLink RX9 36 "RecordBenchModel" "isThere" "[Z", .fieldLink RX9 13 "RecordBenchModel" "kind" "[I", .code yX9_isRead cX9_isRead 3 (some .boolean), .fieldLink RX9 78 "RecordBenchModel" "long0" "[I", .methodLink RX9 302 yX9_loads, .instanceMethod yX9_loads, .selects RX9 yX9_loads yX9_loads, .methodLink RX9 305 yX9_reads, .instanceMethod yX9_reads, .selects RX9 yX9_reads yX9_reads, .code yX9_loads cX9_loads 3 none, .fieldLink RX9 81 "RecordBenchModel" "row" "[I", .fieldLink RX9 75 "RecordBenchModel" "bytes" "[I", .code yX9_reads cX9_reads 7 (some .boolean), .fieldLink RX9 285 "RecordBenchModel" "readFault" "I", .fieldLink RX9 288 "RecordBenchModel" "readPlace" "I", .fieldLink RX9 291 "RecordBenchModel" "pieces" "I", .fieldLink RX9 102 "RecordBenchModel" "pileAt" "[I", .fieldLink RX9 105 "RecordBenchModel" "pileEnd" "[I", .fieldLink RX9 99 "RecordBenchModel" "pileMake" "[I", .fieldLink RX9 108 "RecordBenchModel" "pileLast" "[I", .fieldLink RX9 111 "RecordBenchModel" "pileGroups" "[I", .fieldLink RX9 260 "RecordBenchModel" "pieceFault" "I", .fieldLink RX9 84 "RecordBenchModel" "pieceNumber" "[I", .fieldLink RX9 263 "RecordBenchModel" "number" "I", .fieldLink RX9 87 "RecordBenchModel" "pieceBegin" "[I", .fieldLink RX9 90 "RecordBenchModel" "pieceFrom" "[I", .fieldLink RX9 275 "RecordBenchModel" "from" "I", .fieldLink RX9 93 "RecordBenchModel" "pieceTo" "[I", .fieldLink RX9 278 "RecordBenchModel" "to" "I", .fieldLink RX9 96 "RecordBenchModel" "pieceValue" "[J", .fieldLink RX9 273 "RecordBenchModel" "value" "J", .fieldLink RX9 17 "RecordBenchModel" "group" "[I", .fieldLink RX9 20 "RecordBenchModel" "inner" "[I", .methodLink RX9 294 yX9_opens, .instanceMethod yX9_opens, .selects RX9 yX9_opens yX9_opens, .methodLink RX9 298 yX9_piece, .instanceMethod yX9_piece, .selects RX9 yX9_piece yX9_piece, .code yX9_opens cX9_opens 5 none, .code yX9_piece cX9_piece 14 none, .fieldLink RX9 252 "RecordBenchModel" "varint" "J", .fieldLink RX9 267 "RecordBenchModel" "isLong" "Z", .constantLong RX9 271 (30), .fieldLink RX9 257 "RecordBenchModel" "varintEnd" "I", .methodLink RX9 281 yX9_isText, .static yX9_isText, .methodLink RX9 229 yX9_isOf, .static yX9_isOf, .methodLink RX9 265 yX9_varint, .instanceMethod yX9_varint, .selects RX9 yX9_varint yX9_varint, .code yX9_isText cX9_isText 4 (some .boolean), .code yX9_isOf cX9_isOf 3 (some .boolean), .constantLong RX9 219 (-2147483648), .constantLong RX9 221 (2147483647), .constantLong RX9 215 (-128), .constantLong RX9 217 (127), .code yX9_varint cX9_varint 6 (some .boolean), .constantLong RX9 255 (128), .code yX9_puts cX9_puts 11 (some .int), .fieldLink RX9 117 "RecordBenchModel" "laidLong" "[I", .fieldLink RX9 114 "RecordBenchModel" "laid" "[I", .fieldLink RX9 123 "RecordBenchModel" "fresh" "[I", .methodLink RX9 334 yX9_comes, .instanceMethod yX9_comes, .selects RX9 yX9_comes yX9_comes, .methodLink RX9 320 yX9_lays, .instanceMethod yX9_lays, .selects RX9 yX9_lays yX9_lays, .methodLink RX9 331 yX9_writes, .instanceMethod yX9_writes, .selects RX9 yX9_writes yX9_writes, .code yX9_comes cX9_comes 3 none, .code yX9_lays cX9_lays 3 none, .code yX9_writes cX9_writes 9 none, .fieldLink RX9 120 "RecordBenchModel" "levelKey" "[I", .methodLink RX9 323 yX9_laysVarint, .instanceMethod yX9_laysVarint, .selects RX9 yX9_laysVarint yX9_laysVarint, .methodLink RX9 327 yX9_folded, .static yX9_folded, .code yX9_laysVarint cX9_laysVarint 6 none, .code yX9_folded cX9_folded 2 (some .long)] : List Cond) ++ wsX90)
set_option maxRecDepth 20000 in
theorem gq_X9_drop_X9_isRecord_249 : GoodIn wq_X9_drop (wsS RX9 249 yX9_isRecord wq_X9_isRecord) := goodIn_app (goodIn_r _ [2, 3, 4] rfl rfl) (goodIn_r _ [17] rfl rfl)
theorem gs_wq_X9_drop_wsX90 : GoodIn wq_X9_drop wsX90 := fun w h => ⟨List.mem_cons_of_mem _ (List.mem_append_right _ h), (gt_wsX90 w h).2⟩
set_option maxRecDepth 20000 in
theorem gq_X9_drop_X9_isMake_239 : GoodIn wq_X9_drop (wsV RX9 239 RX9 yX9_isMake wq_X9_isMake) := goodIn_app (goodIn_r _ [5, 6, 7, 4] rfl rfl) (goodIn_ca (goodIn_r _ [18, 19] rfl rfl) gs_wq_X9_drop_wsX90)
set_option maxRecDepth 20000 in
theorem gq_X9_drop_X9_has_246 : GoodIn wq_X9_drop (wsV RX9 246 RX9 yX9_has wq_X9_has) := goodIn_app (goodIn_r _ [8, 9, 10, 4] rfl rfl) (goodIn_ca (goodIn_r _ [20, 21, 22] rfl rfl) gs_wq_X9_drop_wsX90)
set_option maxRecDepth 20000 in
theorem gq_X9_drop_X9_isRead_308 : GoodIn wq_X9_drop (wsV RX9 308 RX9 yX9_isRead wq_X9_isRead) := goodIn_app (goodIn_r _ [11, 12, 13, 4] rfl rfl) (goodIn_ca (goodIn_r _ [23, 24, 25, 26, 27, 4, 28, 29, 30, 31, 32, 33, 34, 35, 36, 37, 38, 39, 40, 41, 42, 43, 44, 45, 46, 47, 48, 49, 50, 51, 52, 53, 22, 54, 55, 56, 57, 8, 9, 10, 58, 59, 60, 61, 20, 21, 62, 63, 64, 65, 66, 67, 68, 69, 70, 71, 72, 73, 74, 75, 76, 77, 78, 79, 80, 81] rfl rfl) gs_wq_X9_drop_wsX90)
set_option maxRecDepth 20000 in
theorem gq_X9_drop_X9_puts_343 : GoodIn wq_X9_drop (wsV RX9 343 RX9 yX9_puts wq_X9_puts) := goodIn_app (goodIn_r _ [14, 15, 16, 4] rfl rfl) (goodIn_ca (goodIn_r _ [82, 24, 83, 53, 32, 84, 50, 45, 1, 85, 86, 87, 88, 4, 89, 90, 91, 58, 59, 60, 8, 9, 10, 25, 26, 27, 92, 93, 94, 95, 33, 96, 62, 43, 63, 64, 65, 66, 52, 48, 22, 67, 68, 69, 70, 71, 72, 73, 74, 75, 76, 77, 78, 79, 20, 21, 80, 81, 31, 97, 38, 39, 40, 54, 98, 99, 100, 101, 102, 103, 55, 56, 57, 104, 105, 61, 41, 42] rfl rfl) gs_wq_X9_drop_wsX90)
set_option maxHeartbeats 4000000 in
set_option maxRecDepth 100000 in
theorem c_X9_drop (l : Launch) (dC : Nat → ClassId) (dI : Nat → Nat → Nat) (h0 : Nat) (ar : Nat → Nat) (ca : Nat → ClassId) (p0 : Int32) (p1 : Int32) (p2 : Int32) (st st' : RS) (r : Int32) (hf : x9_drop p0 p1 p2 st = some (r, st')) (sz : Nat) : Met l yX9_drop wq_X9_drop ({ frames := 4, cells := 0, slots := 0, locals := 132 }) (va_Pc [.ref h0, .int p0, .int p1, .int p2] (Pr (dC, dI) (rT ca) [] (RW h0 ar ca st) sz)) (va_Qi (fun r' (_ : Unit) => r' = r) (Bq (dC, dI) (fun _ => RW h0 ar ca st') (fun _ => []) (va_A (RW h0 ar ca st) sz)) (va_A (RW h0 ar ca st) sz)) 0 0 (va_A (RW h0 ar ca st) sz) := by
  refine Met.ofW (cc := cX9_drop) (maxL := 4) (ret := (some .int)) (by decide) rfl ?_
  intro p e s m args below meth c s₁ B hml hv
  obtain ⟨rfl, hsz, hP, hK, hD0, hN, hZ, hR⟩ := hv
  have hx := B.exec
  have hb := B.bytes
  have hr := B.returns
  have hts := atoms_spec (ws := wq_X9_drop) B.pre
  have hown : s.vm.findClass RX9 = some m.cls := findClass_of_methodNamed B.named
  have iRX9 : ∀ w ∈ u_ws RX9 TX9 60, w ∈ wq_X9_drop := fun w h => List.mem_cons_of_mem _ (List.mem_append_right _ h)
  subst hsz
  have hp : Rp (dC, dI) h0 ar ca (va_A (RW h0 ar ca st) s.heap.size) s.heap st s.heap [] := ⟨hP, hD0.self, va_S.rf⟩
  generalize hAe : va_A (RW h0 ar ca st) s.heap.size = A at hp hZ ⊢
  have hA : ∀ q : Nat, s.heap.size ≤ q → A q := fun q h => by rw [← hAe]; exact Or.inr h
  have hl := lv_entry ([.ref h0, .int p0, .int p1, .int p2]) (n := 4) (Nat.le_of_ble_eq_true rfl)
  rw [lg_entry_eq]
  generalize (lg_sl ([.ref h0, .int p0, .int p1, .int p2]) ++ List.replicate (4 - (lg_sl ([.ref h0, .int p0, .int p1, .int p2])).length) Slot.unset).toArray = ls at hl ⊢
  have hl : lv_has ls 4 [(0, .ref h0), (1, .int p0), (2, .int p1), (3, .int p2)] := hl
  unfold x9_drop at hf
  refine lv_iload_n hx hb dX9_drop_0 rfl (lv_at hl 1 rfl) ?_
  obtain ⟨r_3, st_1, hc_2, hf⟩ := bnd_some hf
  refine r_ci hp hA (va_runS (As := [.int p0]) (rest := []) ⟨hx, hb, hml, hown, hts⟩ (c_X9_isRecord l dC dI h0 ar ca p0 _ _ _ hc_2 _) (cwS 1 hts gq_X9_drop_X9_isRecord_249 rfl rfl rfl (by decide +kernel) ⟨Nat.le_of_ble_eq_true rfl, Nat.le_of_ble_eq_true rfl⟩) ⟨Pr.blind _, r_pre hp hK hN hZ hA⟩ rfl rfl hl.1 rfl (lv_room (Nat.le_of_ble_eq_true rfl)) dX9_drop_1 ⟨Nat.le_of_ble_eq_true rfl, Nat.le_of_ble_eq_true rfl⟩) (fun H locs hp => ?_)
  refine lv_if_eq (tgt := 24) hx hb dX9_drop_4 (by decide) (fun c_4 => ?_) (fun c_4 => ?_)
  · have hf := pif_t c_4 hf
    refine lv_iconst (v := (-1)) hx hb dX9_drop_24 (by decide) ?_
    obtain ⟨e1, e2⟩ := pr_some hf
    exact W.iret (v := (-1)) hx hb hr (fun t ht hW => ⟨⟨(-1), (), rfl, e1, Rp.end e2 hp hK ht hW⟩, hp.2.2.F ht⟩) hp.2.2.2.2 dX9_drop_25
  · have hf := pif_f c_4 hf
    refine lv_aload_n hx hb dX9_drop_7 rfl (lv_at hl 0 rfl) ?_
    refine lv_iload_n hx hb dX9_drop_8 rfl (lv_at hl 2 rfl) ?_
    obtain ⟨r_7, st_5, hc_6, hf⟩ := bnd_some hf
    refine r_ci hp hA (va_runV (As := [.int p1]) (rest := []) ⟨hx, hb, hml, hown, hts⟩ (c_X9_isMake l dC dI h0 ar ca p1 _ _ _ hc_6 _) (cwV 1 hts gq_X9_drop_X9_isMake_239 rfl rfl rfl (by decide +kernel) ⟨Nat.le_of_ble_eq_true rfl, Nat.le_of_ble_eq_true rfl⟩) ⟨Pr.blind _, va_recv hK hp.1 (ci := 11) (q0 := 0) rfl rfl, r_pre hp hK hN hZ hA⟩ rfl rfl hl.1 rfl (lv_room (Nat.le_of_ble_eq_true rfl)) dX9_drop_9 ⟨Nat.le_of_ble_eq_true rfl, Nat.le_of_ble_eq_true rfl⟩) (fun H locs hp => ?_)
    refine lv_if_eq (tgt := 24) hx hb dX9_drop_12 (by decide) (fun c_8 => ?_) (fun c_8 => ?_)
    · have hf := pif_t c_8 hf
      refine lv_iconst (v := (-1)) hx hb dX9_drop_24 (by decide) ?_
      obtain ⟨e1, e2⟩ := pr_some hf
      exact W.iret (v := (-1)) hx hb hr (fun t ht hW => ⟨⟨(-1), (), rfl, e1, Rp.end e2 hp hK ht hW⟩, hp.2.2.F ht⟩) hp.2.2.2.2 dX9_drop_25
    · have hf := pif_f c_8 hf
      refine lv_aload_n hx hb dX9_drop_15 rfl (lv_at hl 0 rfl) ?_
      refine lv_iload_n hx hb dX9_drop_16 rfl (lv_at hl 2 rfl) ?_
      refine lv_iload_n hx hb dX9_drop_17 rfl (lv_at hl 3 rfl) ?_
      obtain ⟨r_11, st_9, hc_10, hf⟩ := bnd_some hf
      refine r_ci hp hA (va_runV (As := [.int p1, .int p2]) (rest := []) ⟨hx, hb, hml, hown, hts⟩ (c_X9_has l dC dI h0 ar ca p1 p2 _ _ _ hc_10 _) (cwV 2 hts gq_X9_drop_X9_has_246 rfl rfl rfl (by decide +kernel) ⟨Nat.le_of_ble_eq_true rfl, Nat.le_of_ble_eq_true rfl⟩) ⟨Pr.blind _, va_recv hK hp.1 (ci := 11) (q0 := 0) rfl rfl, r_pre hp hK hN hZ hA⟩ rfl rfl hl.1 rfl (lv_room (Nat.le_of_ble_eq_true rfl)) dX9_drop_18 ⟨Nat.le_of_ble_eq_true rfl, Nat.le_of_ble_eq_true rfl⟩) (fun H locs hp => ?_)
      refine lv_if_ne (tgt := 26) hx hb dX9_drop_21 (by decide) (fun c_12 => ?_) (fun c_12 => ?_)
      · have hf := pif_f c_12 hf
        refine lv_aload_n hx hb dX9_drop_26 rfl (lv_at hl 0 rfl) ?_
        refine lv_iload_n hx hb dX9_drop_27 rfl (lv_at hl 1 rfl) ?_
        refine lv_iload_n hx hb dX9_drop_28 rfl (lv_at hl 2 rfl) ?_
        obtain ⟨r_15, st_13, hc_14, hf⟩ := bnd_some hf
        refine r_ci hp hA (va_runV (As := [.int p0, .int p1]) (rest := []) ⟨hx, hb, hml, hown, hts⟩ (c_X9_isRead l dC dI h0 ar ca p0 p1 _ _ _ hc_14 _) (cwV 2 hts gq_X9_drop_X9_isRead_308 rfl rfl rfl (by decide +kernel) ⟨Nat.le_of_ble_eq_true rfl, Nat.le_of_ble_eq_true rfl⟩) ⟨Pr.blind _, va_recv hK hp.1 (ci := 11) (q0 := 0) rfl rfl, r_pre hp hK hN hZ hA⟩ rfl rfl hl.1 rfl (lv_room (Nat.le_of_ble_eq_true rfl)) dX9_drop_29 ⟨Nat.le_of_ble_eq_true rfl, Nat.le_of_ble_eq_true rfl⟩) (fun H locs hp => ?_)
        refine lv_if_ne (tgt := 38) hx hb dX9_drop_32 (by decide) (fun c_16 => ?_) (fun c_16 => ?_)
        · have hf := pif_f c_16 hf
          refine lv_aload_n hx hb dX9_drop_38 rfl (lv_at hl 0 rfl) ?_
          refine lv_iconst (v := 0) hx hb dX9_drop_39 (by decide) ?_
          refine r_pi (v := 0) (ty := .int) hx hb hts iRX9 hown hK hp 56 (by decide) rfl (hts (.fieldLink RX9 337 "RecordBenchModel" "freshLong" "I") (by decide +kernel)) rfl (by decide +kernel) rfl rfl dX9_drop_40 (fun H locs hp => ?_)
          obtain ⟨st_17, est_17, hf⟩ := nam_some hf
          rw [← est_17] at hp
          refine lv_aload_n hx hb dX9_drop_43 rfl (lv_at hl 0 rfl) ?_
          refine lv_iload_n hx hb dX9_drop_44 rfl (lv_at hl 1 rfl) ?_
          refine lv_iload_n hx hb dX9_drop_45 rfl (lv_at hl 2 rfl) ?_
          refine lv_iload_n hx hb dX9_drop_46 rfl (lv_at hl 3 rfl) ?_
          obtain ⟨r_20, st_18, hc_19, hf⟩ := bnd_some hf
          refine r_ci hp hA (va_runV (As := [.int p0, .int p1, .int p2]) (rest := []) ⟨hx, hb, hml, hown, hts⟩ (c_X9_puts l dC dI h0 ar ca p0 p1 p2 _ _ _ hc_19 _) (cwV 3 hts gq_X9_drop_X9_puts_343 rfl rfl rfl (by decide +kernel) ⟨Nat.le_of_ble_eq_true rfl, Nat.le_of_ble_eq_true rfl⟩) ⟨Pr.blind _, va_recv hK hp.1 (ci := 11) (q0 := 0) rfl rfl, r_pre hp hK hN hZ hA⟩ rfl rfl hl.1 rfl (lv_room (Nat.le_of_ble_eq_true rfl)) dX9_drop_47 ⟨Nat.le_of_ble_eq_true rfl, Nat.le_of_ble_eq_true rfl⟩) (fun H locs hp => ?_)
          obtain ⟨e1, e2⟩ := pr_some hf
          exact W.iret (v := r_20) hx hb hr (fun t ht hW => ⟨⟨r_20, (), rfl, e1, Rp.end e2 hp hK ht hW⟩, hp.2.2.F ht⟩) hp.2.2.2.2 dX9_drop_50
        · have hf := pif_t c_16 hf
          refine lv_bipush (v := (-2)) hx hb dX9_drop_35 (by decide) ?_
          obtain ⟨e1, e2⟩ := pr_some hf
          exact W.iret (v := (-2)) hx hb hr (fun t ht hW => ⟨⟨(-2), (), rfl, e1, Rp.end e2 hp hK ht hW⟩, hp.2.2.F ht⟩) hp.2.2.2.2 dX9_drop_37
      · have hf := pif_t c_12 hf
        refine lv_iconst (v := (-1)) hx hb dX9_drop_24 (by decide) ?_
        obtain ⟨e1, e2⟩ := pr_some hf
        exact W.iret (v := (-1)) hx hb hr (fun t ht hW => ⟨⟨(-1), (), rfl, e1, Rp.end e2 hp hK ht hW⟩, hp.2.2.F ht⟩) hp.2.2.2.2 dX9_drop_25
noncomputable def x9_open_99  : Nat → Int32 → Int32 → Int32 → Int32 → RS → Option (Int32 × RS)
  | 0 => fun _ _ _ _ _ => none
  | n + 1 => fun l4 l5 l6 l7 st => pif (l6 ≤ l7) (gd (vp_in l4 4) (nam (sF st 29 (upd (gF st 29) l4.toNatClampNeg l6)) (fun st_3 => some (l6, st_3)))) (gd (vp_in l5 64) (gd (vp_in ((gF st 44 l5.toNatClampNeg) + l7) 160) (gd (vp_in ((120 * l4) + l7) 480) (nam (sF st 28 (upd (gF st 28) ((120 * l4) + l7).toNatClampNeg (gF st 30 ((gF st 44 l5.toNatClampNeg) + l7).toNatClampNeg))) (fun st_7 => nam (l7 + 1) (fun v_8 => (x9_open_99 n) l4 l5 l6 v_8 st_7))))))
theorem x9_open_99_z  (l4 : Int32) (l5 : Int32) (l6 : Int32) (l7 : Int32) (st : RS) : x9_open_99  0 l4 l5 l6 l7 st = none := rfl
theorem x9_open_99_s  (n : Nat) (l4 : Int32) (l5 : Int32) (l6 : Int32) (l7 : Int32) (st : RS) : x9_open_99  (n + 1) l4 l5 l6 l7 st = pif (l6 ≤ l7) (gd (vp_in l4 4) (nam (sF st 29 (upd (gF st 29) l4.toNatClampNeg l6)) (fun st_3 => some (l6, st_3)))) (gd (vp_in l5 64) (gd (vp_in ((gF st 44 l5.toNatClampNeg) + l7) 160) (gd (vp_in ((120 * l4) + l7) 480) (nam (sF st 28 (upd (gF st 28) ((120 * l4) + l7).toNatClampNeg (gF st 30 ((gF st 44 l5.toNatClampNeg) + l7).toNatClampNeg))) (fun st_7 => nam (l7 + 1) (fun v_8 => (x9_open_99 n) l4 l5 l6 v_8 st_7)))))) := rfl
noncomputable def x9_open_94  (l4 : Int32) (l5 : Int32) (s0 : Int32) (st : RS) : Option (Int32 × RS) := x9_open_99  fuel l4 l5 s0 0 st
noncomputable def x9_open (p0 : Int32) (p1 : Int32) (p2 : Int32) (p3 : Int32) (st : RS) : Option (Int32 × RS) := bnd (x9_isRecord p0 st) (fun r_11 st_9 => pif (r_11 = 0) (some (((-1) : Int32), st_9)) (bnd (x9_isRecord p3 st_9) (fun r_15 st_13 => pif (r_15 = 0) (some (((-1) : Int32), st_13)) (bnd (x9_isMake p1 st_13) (fun r_19 st_17 => pif (r_19 = 0) (some (((-1) : Int32), st_17)) (bnd (x9_has p1 p2 st_17) (fun r_23 st_21 => pif (r_23 = 0) (some (((-1) : Int32), st_21)) (gd (vp_in ((31 * p1) + p2) 248) (pif ((gF st_21 1 ((31 * p1) + p2).toNatClampNeg) = 6) (bnd (x9_isRead p0 p1 st_21) (fun r_29 st_27 => pif (r_29 = 0) (some (((-2) : Int32), st_27)) (bnd (x9_pieceOf p2 st_27) (fun r_33 st_31 => pif (r_33 = (-1)) (x9_open_94  p3 r_33 0 st_31) (gd (vp_in r_33 64) (gd (vp_in r_33 64) (x9_open_94  p3 r_33 ((gF st_31 45 r_33.toNatClampNeg) - (gF st_31 44 r_33.toNatClampNeg)) st_31))))))) (some (((-1) : Int32), st_21)))))))))))
def wq_X9_open : List Cond := .code yX9_open cX9_open 8 (some .int) :: (([.fieldLink RX9 13 "RecordBenchModel" "kind" "[I", .fieldLink RX9 93 "RecordBenchModel" "pieceTo" "[I", .fieldLink RX9 90 "RecordBenchModel" "pieceFrom" "[I", .fieldLink RX9 78 "RecordBenchModel" "long0" "[I", .fieldLink RX9 75 "RecordBenchModel" "bytes" "[I", .fieldLink RX9 81 "RecordBenchModel" "row" "[I", .methodLink RX9 249 yX9_isRecord, .static yX9_isRecord, .initialized RX9, .methodLink RX9 239 yX9_isMake, .instanceMethod yX9_isMake, .selects RX9 yX9_isMake yX9_isMake, .methodLink RX9 246 yX9_has, .instanceMethod yX9_has, .selects RX9 yX9_has yX9_has, .methodLink RX9 308 yX9_isRead, .instanceMethod yX9_isRead, .selects RX9 yX9_isRead yX9_isRead, .methodLink RX9 313 yX9_pieceOf, .instanceMethod yX9_pieceOf, .selects RX9 yX9_pieceOf yX9_pieceOf, .code yX9_isRecord cX9_isRecord 1 (some .boolean), .code yX9_isMake cX9_isMake 2 (some .boolean), .fieldLink RX9 7 "RecordBenchModel" "told" "[Z", .code yX9_has cX9_has 3 (some .boolean), .fieldLink RX9 36 "RecordBenchModel" "isThere" "[Z", .code yX9_isRead cX9_isRead 3 (some .boolean), .methodLink RX9 302 yX9_loads, .instanceMethod yX9_loads, .selects RX9 yX9_loads yX9_loads, .methodLink RX9 305 yX9_reads, .instanceMethod yX9_reads, .selects RX9 yX9_reads yX9_reads, .code yX9_loads cX9_loads 3 none, .code yX9_reads cX9_reads 7 (some .boolean), .fieldLink RX9 285 "RecordBenchModel" "readFault" "I", .fieldLink RX9 288 "RecordBenchModel" "readPlace" "I", .fieldLink RX9 291 "RecordBenchModel" "pieces" "I", .fieldLink RX9 102 "RecordBenchModel" "pileAt" "[I", .fieldLink RX9 105 "RecordBenchModel" "pileEnd" "[I", .fieldLink RX9 99 "RecordBenchModel" "pileMake" "[I", .fieldLink RX9 108 "RecordBenchModel" "pileLast" "[I", .fieldLink RX9 111 "RecordBenchModel" "pileGroups" "[I", .fieldLink RX9 260 "RecordBenchModel" "pieceFault" "I", .fieldLink RX9 84 "RecordBenchModel" "pieceNumber" "[I", .fieldLink RX9 263 "RecordBenchModel" "number" "I", .fieldLink RX9 87 "RecordBenchModel" "pieceBegin" "[I", .fieldLink RX9 275 "RecordBenchModel" "from" "I", .fieldLink RX9 278 "RecordBenchModel" "to" "I", .fieldLink RX9 96 "RecordBenchModel" "pieceValue" "[J", .fieldLink RX9 273 "RecordBenchModel" "value" "J", .fieldLink RX9 17 "RecordBenchModel" "group" "[I", .fieldLink RX9 20 "RecordBenchModel" "inner" "[I", .methodLink RX9 294 yX9_opens, .instanceMethod yX9_opens, .selects RX9 yX9_opens yX9_opens, .methodLink RX9 298 yX9_piece, .instanceMethod yX9_piece, .selects RX9 yX9_piece yX9_piece, .code yX9_opens cX9_opens 5 none, .code yX9_piece cX9_piece 14 none, .fieldLink RX9 252 "RecordBenchModel" "varint" "J", .fieldLink RX9 267 "RecordBenchModel" "isLong" "Z", .constantLong RX9 271 (30), .fieldLink RX9 257 "RecordBenchModel" "varintEnd" "I", .methodLink RX9 281 yX9_isText, .static yX9_isText, .methodLink RX9 229 yX9_isOf, .static yX9_isOf, .methodLink RX9 265 yX9_varint, .instanceMethod yX9_varint, .selects RX9 yX9_varint yX9_varint, .code yX9_isText cX9_isText 4 (some .boolean), .code yX9_isOf cX9_isOf 3 (some .boolean), .constantLong RX9 219 (-2147483648), .constantLong RX9 221 (2147483647), .constantLong RX9 215 (-128), .constantLong RX9 217 (127), .code yX9_varint cX9_varint 6 (some .boolean), .constantLong RX9 255 (128), .code yX9_pieceOf cX9_pieceOf 3 (some .int)] : List Cond) ++ wsX90)
set_option maxRecDepth 20000 in
theorem gq_X9_open_X9_isRecord_249 : GoodIn wq_X9_open (wsS RX9 249 yX9_isRecord wq_X9_isRecord) := goodIn_app (goodIn_r _ [7, 8, 9] rfl rfl) (goodIn_r _ [22] rfl rfl)
theorem gs_wq_X9_open_wsX90 : GoodIn wq_X9_open wsX90 := fun w h => ⟨List.mem_cons_of_mem _ (List.mem_append_right _ h), (gt_wsX90 w h).2⟩
set_option maxRecDepth 20000 in
theorem gq_X9_open_X9_isMake_239 : GoodIn wq_X9_open (wsV RX9 239 RX9 yX9_isMake wq_X9_isMake) := goodIn_app (goodIn_r _ [10, 11, 12, 9] rfl rfl) (goodIn_ca (goodIn_r _ [23, 24] rfl rfl) gs_wq_X9_open_wsX90)
set_option maxRecDepth 20000 in
theorem gq_X9_open_X9_has_246 : GoodIn wq_X9_open (wsV RX9 246 RX9 yX9_has wq_X9_has) := goodIn_app (goodIn_r _ [13, 14, 15, 9] rfl rfl) (goodIn_ca (goodIn_r _ [25, 26, 1] rfl rfl) gs_wq_X9_open_wsX90)
set_option maxRecDepth 20000 in
theorem gq_X9_open_X9_isRead_308 : GoodIn wq_X9_open (wsV RX9 308 RX9 yX9_isRead wq_X9_isRead) := goodIn_app (goodIn_r _ [16, 17, 18, 9] rfl rfl) (goodIn_ca (goodIn_r _ [27, 4, 28, 29, 30, 9, 31, 32, 33, 34, 6, 5, 35, 36, 37, 38, 39, 40, 41, 42, 43, 44, 45, 46, 47, 3, 48, 2, 49, 50, 51, 52, 1, 53, 54, 55, 56, 13, 14, 15, 57, 58, 59, 60, 25, 26, 61, 62, 63, 64, 65, 66, 67, 68, 69, 70, 71, 72, 73, 74, 75, 76, 77, 78, 79, 80] rfl rfl) gs_wq_X9_open_wsX90)
set_option maxRecDepth 20000 in
theorem gq_X9_open_X9_pieceOf_313 : GoodIn wq_X9_open (wsV RX9 313 RX9 yX9_pieceOf wq_X9_pieceOf) := goodIn_app (goodIn_r _ [19, 20, 21, 9] rfl rfl) (goodIn_ca (goodIn_r _ [81, 38, 45] rfl rfl) gs_wq_X9_open_wsX90)
set_option maxHeartbeats 4000000 in
set_option maxRecDepth 100000 in
theorem c_X9_open (l : Launch) (dC : Nat → ClassId) (dI : Nat → Nat → Nat) (h0 : Nat) (ar : Nat → Nat) (ca : Nat → ClassId) (p0 : Int32) (p1 : Int32) (p2 : Int32) (p3 : Int32) (st st' : RS) (r : Int32) (hf : x9_open p0 p1 p2 p3 st = some (r, st')) (sz : Nat) : Met l yX9_open wq_X9_open ({ frames := 4, cells := 0, slots := 0, locals := 122 }) (va_Pc [.ref h0, .int p0, .int p1, .int p2, .int p3] (Pr (dC, dI) (rT ca) [] (RW h0 ar ca st) sz)) (va_Qi (fun r' (_ : Unit) => r' = r) (Bq (dC, dI) (fun _ => RW h0 ar ca st') (fun _ => []) (va_A (RW h0 ar ca st) sz)) (va_A (RW h0 ar ca st) sz)) 0 0 (va_A (RW h0 ar ca st) sz) := by
  refine Met.ofW (cc := cX9_open) (maxL := 8) (ret := (some .int)) (by decide) rfl ?_
  intro p e s m args below meth c s₁ B hml hv
  obtain ⟨rfl, hsz, hP, hK, hD0, hN, hZ, hR⟩ := hv
  have hx := B.exec
  have hb := B.bytes
  have hr := B.returns
  have hts := atoms_spec (ws := wq_X9_open) B.pre
  have hown : s.vm.findClass RX9 = some m.cls := findClass_of_methodNamed B.named
  have iRX9 : ∀ w ∈ u_ws RX9 TX9 60, w ∈ wq_X9_open := fun w h => List.mem_cons_of_mem _ (List.mem_append_right _ h)
  subst hsz
  have hp : Rp (dC, dI) h0 ar ca (va_A (RW h0 ar ca st) s.heap.size) s.heap st s.heap [] := ⟨hP, hD0.self, va_S.rf⟩
  generalize hAe : va_A (RW h0 ar ca st) s.heap.size = A at hp hZ ⊢
  have hA : ∀ q : Nat, s.heap.size ≤ q → A q := fun q h => by rw [← hAe]; exact Or.inr h
  have hl := lv_entry ([.ref h0, .int p0, .int p1, .int p2, .int p3]) (n := 8) (Nat.le_of_ble_eq_true rfl)
  rw [lg_entry_eq]
  generalize (lg_sl ([.ref h0, .int p0, .int p1, .int p2, .int p3]) ++ List.replicate (8 - (lg_sl ([.ref h0, .int p0, .int p1, .int p2, .int p3])).length) Slot.unset).toArray = ls at hl ⊢
  have hl : lv_has ls 8 [(0, .ref h0), (1, .int p0), (2, .int p1), (3, .int p2), (4, .int p3)] := hl
  refine W_lp (fun n99 (u : Int32 × Int32 × Int32 × Int32 × RS) H locs ls => match u with | (l4, l5, l6, l7, st) => x9_open_99 n99 l4 l5 l6 l7 st = some (r, st') ∧ Rp (dC, dI) h0 ar ca A s.heap st H locs ∧ lv_has ls 8 [(0, .ref h0), (4, .int l4), (5, .int l5), (6, .int l6), (7, .int l7)]) (fun (u : Int32 × Int32 × Int32 × Int32 × RS) ls => match u with | (l4, l5, l6, l7, st) => F0 m 99 ls []) ?_ ?_ (fun J99 => ?_)
  · intro u H locs ls hu
    obtain ⟨l4, l5, l6, l7, st⟩ := u
    obtain ⟨hf, hp, hl⟩ := hu
    rw [x9_open_99_z] at hf
    cases hf
  · intro n99 ih99 u H locs ls hu
    obtain ⟨l4, l5, l6, l7, st⟩ := u
    obtain ⟨hf, hp, hl⟩ := hu
    show W p l e _ s m _ below meth c _ _ _ _ _ (F0 m 99 ls [])
    rw [x9_open_99_s] at hf
    refine lv_iload hx hb dX9_open_99 (lv_at hl 4 rfl) ?_
    refine lv_iload hx hb dX9_open_101 (lv_at hl 3 rfl) ?_
    refine lv_icmp_ge (tgt := 140) hx hb dX9_open_103 (by decide) (fun c_1 => ?_) (fun c_1 => ?_)
    · have hf := pif_t c_1 hf
      refine lv_aload_n hx hb dX9_open_140 rfl (lv_at hl 0 rfl) ?_
      refine r_ga hx hb hts iRX9 hown hK hp 29 (by decide) (by decide) (hts (.fieldLink RX9 78 "RecordBenchModel" "long0" "[I") (by decide +kernel)) dX9_open_141 ?_
      refine lv_iload hx hb dX9_open_144 (lv_at hl 1 rfl) ?_
      refine lv_iload hx hb dX9_open_146 (lv_at hl 3 rfl) ?_
      obtain ⟨g_2, hf⟩ := gd_some hf
      refine r_si (n := 4) hx hb hK hp 11 29 rfl rfl rfl g_2 dX9_open_148 (fun H locs hp => ?_)
      obtain ⟨st_3, est_3, hf⟩ := nam_some hf
      rw [← est_3] at hp
      refine lv_iload hx hb dX9_open_149 (lv_at hl 3 rfl) ?_
      obtain ⟨e1, e2⟩ := pr_some hf
      exact W.iret (v := l6) hx hb hr (fun t ht hW => ⟨⟨l6, (), rfl, e1, Rp.end e2 hp hK ht hW⟩, hp.2.2.F ht⟩) hp.2.2.2.2 dX9_open_151
    · have hf := pif_f c_1 hf
      refine lv_aload_n hx hb dX9_open_106 rfl (lv_at hl 0 rfl) ?_
      refine r_ga hx hb hts iRX9 hown hK hp 28 (by decide) (by decide) (hts (.fieldLink RX9 75 "RecordBenchModel" "bytes" "[I") (by decide +kernel)) dX9_open_107 ?_
      refine lv_bipush (v := 120) hx hb dX9_open_110 (by decide) ?_
      refine lv_iload hx hb dX9_open_112 (lv_at hl 1 rfl) ?_
      refine lv_imul hx hb dX9_open_114 ?_
      refine lv_iload hx hb dX9_open_115 (lv_at hl 4 rfl) ?_
      refine lv_iadd hx hb dX9_open_117 ?_
      refine lv_aload_n hx hb dX9_open_118 rfl (lv_at hl 0 rfl) ?_
      refine r_ga hx hb hts iRX9 hown hK hp 30 (by decide) (by decide) (hts (.fieldLink RX9 81 "RecordBenchModel" "row" "[I") (by decide +kernel)) dX9_open_119 ?_
      refine lv_aload_n hx hb dX9_open_122 rfl (lv_at hl 0 rfl) ?_
      refine r_ga hx hb hts iRX9 hown hK hp 44 (by decide) (by decide) (hts (.fieldLink RX9 90 "RecordBenchModel" "pieceFrom" "[I") (by decide +kernel)) dX9_open_123 ?_
      refine lv_iload hx hb dX9_open_126 (lv_at hl 2 rfl) ?_
      obtain ⟨g_4, hf⟩ := gd_some hf
      refine r_ai (n := 64) hx hb hK hp 15 44 rfl rfl rfl g_4 dX9_open_128 ?_
      refine lv_iload hx hb dX9_open_129 (lv_at hl 4 rfl) ?_
      refine lv_iadd hx hb dX9_open_131 ?_
      obtain ⟨g_5, hf⟩ := gd_some hf
      refine r_ai (n := 160) hx hb hK hp 12 30 rfl rfl rfl g_5 dX9_open_132 ?_
      obtain ⟨g_6, hf⟩ := gd_some hf
      refine r_si (n := 480) hx hb hK hp 10 28 rfl rfl rfl g_6 dX9_open_133 (fun H locs hp => ?_)
      obtain ⟨st_7, est_7, hf⟩ := nam_some hf
      rw [← est_7] at hp
      obtain ⟨v_8, ev_8, hf⟩ := nam_some hf
      refine lv_iinc (v := v_8) (lv' := [(7, .int v_8), (0, .ref h0), (4, .int l4), (5, .int l5), (6, .int l6)]) hx hb dX9_open_134 hl (k := 4) rfl ev_8.symm (by decide) rfl (fun ls hl => ?_)
      refine lv_goto (tgt := 99) hx hb dX9_open_137 (by decide) ?_
      exact ih99 (l4, l5, l6, v_8, st_7) _ _ _ ⟨hf, hp, (lv_sub hl [1, 2, 3, 4, 0] rfl)⟩
  refine W_blk (fun (u : Int32 × Int32 × Int32 × RS) H locs ls => match u with | (l4, l5, s0, st) => x9_open_94 l4 l5 s0 st = some (r, st') ∧ Rp (dC, dI) h0 ar ca A s.heap st H locs ∧ lv_has ls 8 [(0, .ref h0), (4, .int l4), (5, .int l5)]) (fun (u : Int32 × Int32 × Int32 × RS) ls => match u with | (l4, l5, s0, st) => F0 m 94 ls [.int s0]) ?_ (fun J94 => ?_)
  · intro u H locs ls hu
    obtain ⟨l4, l5, s0, st⟩ := u
    obtain ⟨hf, hp, hl⟩ := hu
    show W p l e _ s m _ below meth c _ _ _ _ _ (F0 m 94 ls [.int s0])
    unfold x9_open_94 at hf
    refine lv_istore (lv' := [(6, .int s0), (0, .ref h0), (4, .int l4), (5, .int l5)]) hx hb dX9_open_94 hl (by decide) rfl (fun ls hl => ?_)
    refine lv_iconst (v := 0) hx hb dX9_open_96 (by decide) ?_
    refine lv_istore (lv' := [(7, .int 0), (6, .int s0), (0, .ref h0), (4, .int l4), (5, .int l5)]) hx hb dX9_open_97 hl (by decide) rfl (fun ls hl => ?_)
    exact J99 fuel (l4, l5, s0, 0, st) _ _ _ ⟨hf, hp, (lv_sub hl [2, 3, 4, 1, 0] rfl)⟩
  unfold x9_open at hf
  refine lv_iload_n hx hb dX9_open_0 rfl (lv_at hl 1 rfl) ?_
  obtain ⟨r_11, st_9, hc_10, hf⟩ := bnd_some hf
  refine r_ci hp hA (va_runS (As := [.int p0]) (rest := []) ⟨hx, hb, hml, hown, hts⟩ (c_X9_isRecord l dC dI h0 ar ca p0 _ _ _ hc_10 _) (cwS 1 hts gq_X9_open_X9_isRecord_249 rfl rfl rfl (by decide +kernel) ⟨Nat.le_of_ble_eq_true rfl, Nat.le_of_ble_eq_true rfl⟩) ⟨Pr.blind _, r_pre hp hK hN hZ hA⟩ rfl rfl hl.1 rfl (lv_room (Nat.le_of_ble_eq_true rfl)) dX9_open_1 ⟨Nat.le_of_ble_eq_true rfl, Nat.le_of_ble_eq_true rfl⟩) (fun H locs hp => ?_)
  refine lv_if_eq (tgt := 48) hx hb dX9_open_4 (by decide) (fun c_12 => ?_) (fun c_12 => ?_)
  · have hf := pif_t c_12 hf
    refine lv_iconst (v := (-1)) hx hb dX9_open_48 (by decide) ?_
    obtain ⟨e1, e2⟩ := pr_some hf
    exact W.iret (v := (-1)) hx hb hr (fun t ht hW => ⟨⟨(-1), (), rfl, e1, Rp.end e2 hp hK ht hW⟩, hp.2.2.F ht⟩) hp.2.2.2.2 dX9_open_49
  · have hf := pif_f c_12 hf
    refine lv_iload hx hb dX9_open_7 (lv_at hl 4 rfl) ?_
    obtain ⟨r_15, st_13, hc_14, hf⟩ := bnd_some hf
    refine r_ci hp hA (va_runS (As := [.int p3]) (rest := []) ⟨hx, hb, hml, hown, hts⟩ (c_X9_isRecord l dC dI h0 ar ca p3 _ _ _ hc_14 _) (cwS 1 hts gq_X9_open_X9_isRecord_249 rfl rfl rfl (by decide +kernel) ⟨Nat.le_of_ble_eq_true rfl, Nat.le_of_ble_eq_true rfl⟩) ⟨Pr.blind _, r_pre hp hK hN hZ hA⟩ rfl rfl hl.1 rfl (lv_room (Nat.le_of_ble_eq_true rfl)) dX9_open_9 ⟨Nat.le_of_ble_eq_true rfl, Nat.le_of_ble_eq_true rfl⟩) (fun H locs hp => ?_)
    refine lv_if_eq (tgt := 48) hx hb dX9_open_12 (by decide) (fun c_16 => ?_) (fun c_16 => ?_)
    · have hf := pif_t c_16 hf
      refine lv_iconst (v := (-1)) hx hb dX9_open_48 (by decide) ?_
      obtain ⟨e1, e2⟩ := pr_some hf
      exact W.iret (v := (-1)) hx hb hr (fun t ht hW => ⟨⟨(-1), (), rfl, e1, Rp.end e2 hp hK ht hW⟩, hp.2.2.F ht⟩) hp.2.2.2.2 dX9_open_49
    · have hf := pif_f c_16 hf
      refine lv_aload_n hx hb dX9_open_15 rfl (lv_at hl 0 rfl) ?_
      refine lv_iload_n hx hb dX9_open_16 rfl (lv_at hl 2 rfl) ?_
      obtain ⟨r_19, st_17, hc_18, hf⟩ := bnd_some hf
      refine r_ci hp hA (va_runV (As := [.int p1]) (rest := []) ⟨hx, hb, hml, hown, hts⟩ (c_X9_isMake l dC dI h0 ar ca p1 _ _ _ hc_18 _) (cwV 1 hts gq_X9_open_X9_isMake_239 rfl rfl rfl (by decide +kernel) ⟨Nat.le_of_ble_eq_true rfl, Nat.le_of_ble_eq_true rfl⟩) ⟨Pr.blind _, va_recv hK hp.1 (ci := 11) (q0 := 0) rfl rfl, r_pre hp hK hN hZ hA⟩ rfl rfl hl.1 rfl (lv_room (Nat.le_of_ble_eq_true rfl)) dX9_open_17 ⟨Nat.le_of_ble_eq_true rfl, Nat.le_of_ble_eq_true rfl⟩) (fun H locs hp => ?_)
      refine lv_if_eq (tgt := 48) hx hb dX9_open_20 (by decide) (fun c_20 => ?_) (fun c_20 => ?_)
      · have hf := pif_t c_20 hf
        refine lv_iconst (v := (-1)) hx hb dX9_open_48 (by decide) ?_
        obtain ⟨e1, e2⟩ := pr_some hf
        exact W.iret (v := (-1)) hx hb hr (fun t ht hW => ⟨⟨(-1), (), rfl, e1, Rp.end e2 hp hK ht hW⟩, hp.2.2.F ht⟩) hp.2.2.2.2 dX9_open_49
      · have hf := pif_f c_20 hf
        refine lv_aload_n hx hb dX9_open_23 rfl (lv_at hl 0 rfl) ?_
        refine lv_iload_n hx hb dX9_open_24 rfl (lv_at hl 2 rfl) ?_
        refine lv_iload_n hx hb dX9_open_25 rfl (lv_at hl 3 rfl) ?_
        obtain ⟨r_23, st_21, hc_22, hf⟩ := bnd_some hf
        refine r_ci hp hA (va_runV (As := [.int p1, .int p2]) (rest := []) ⟨hx, hb, hml, hown, hts⟩ (c_X9_has l dC dI h0 ar ca p1 p2 _ _ _ hc_22 _) (cwV 2 hts gq_X9_open_X9_has_246 rfl rfl rfl (by decide +kernel) ⟨Nat.le_of_ble_eq_true rfl, Nat.le_of_ble_eq_true rfl⟩) ⟨Pr.blind _, va_recv hK hp.1 (ci := 11) (q0 := 0) rfl rfl, r_pre hp hK hN hZ hA⟩ rfl rfl hl.1 rfl (lv_room (Nat.le_of_ble_eq_true rfl)) dX9_open_26 ⟨Nat.le_of_ble_eq_true rfl, Nat.le_of_ble_eq_true rfl⟩) (fun H locs hp => ?_)
        refine lv_if_eq (tgt := 48) hx hb dX9_open_29 (by decide) (fun c_24 => ?_) (fun c_24 => ?_)
        · have hf := pif_t c_24 hf
          refine lv_iconst (v := (-1)) hx hb dX9_open_48 (by decide) ?_
          obtain ⟨e1, e2⟩ := pr_some hf
          exact W.iret (v := (-1)) hx hb hr (fun t ht hW => ⟨⟨(-1), (), rfl, e1, Rp.end e2 hp hK ht hW⟩, hp.2.2.F ht⟩) hp.2.2.2.2 dX9_open_49
        · have hf := pif_f c_24 hf
          refine lv_aload_n hx hb dX9_open_32 rfl (lv_at hl 0 rfl) ?_
          refine r_ga hx hb hts iRX9 hown hK hp 1 (by decide) (by decide) (hts (.fieldLink RX9 13 "RecordBenchModel" "kind" "[I") (by decide +kernel)) dX9_open_33 ?_
          refine lv_bipush (v := 31) hx hb dX9_open_36 (by decide) ?_
          refine lv_iload_n hx hb dX9_open_38 rfl (lv_at hl 2 rfl) ?_
          refine lv_imul hx hb dX9_open_39 ?_
          refine lv_iload_n hx hb dX9_open_40 rfl (lv_at hl 3 rfl) ?_
          refine lv_iadd hx hb dX9_open_41 ?_
          obtain ⟨g_25, hf⟩ := gd_some hf
          refine r_ai (n := 248) hx hb hK hp 1 1 rfl rfl rfl g_25 dX9_open_42 ?_
          refine lv_bipush (v := 6) hx hb dX9_open_43 (by decide) ?_
          refine lv_icmp_eq (tgt := 50) hx hb dX9_open_45 (by decide) (fun c_26 => ?_) (fun c_26 => ?_)
          · have hf := pif_t c_26 hf
            refine lv_aload_n hx hb dX9_open_50 rfl (lv_at hl 0 rfl) ?_
            refine lv_iload_n hx hb dX9_open_51 rfl (lv_at hl 1 rfl) ?_
            refine lv_iload_n hx hb dX9_open_52 rfl (lv_at hl 2 rfl) ?_
            obtain ⟨r_29, st_27, hc_28, hf⟩ := bnd_some hf
            refine r_ci hp hA (va_runV (As := [.int p0, .int p1]) (rest := []) ⟨hx, hb, hml, hown, hts⟩ (c_X9_isRead l dC dI h0 ar ca p0 p1 _ _ _ hc_28 _) (cwV 2 hts gq_X9_open_X9_isRead_308 rfl rfl rfl (by decide +kernel) ⟨Nat.le_of_ble_eq_true rfl, Nat.le_of_ble_eq_true rfl⟩) ⟨Pr.blind _, va_recv hK hp.1 (ci := 11) (q0 := 0) rfl rfl, r_pre hp hK hN hZ hA⟩ rfl rfl hl.1 rfl (lv_room (Nat.le_of_ble_eq_true rfl)) dX9_open_53 ⟨Nat.le_of_ble_eq_true rfl, Nat.le_of_ble_eq_true rfl⟩) (fun H locs hp => ?_)
            refine lv_if_ne (tgt := 62) hx hb dX9_open_56 (by decide) (fun c_30 => ?_) (fun c_30 => ?_)
            · have hf := pif_f c_30 hf
              refine lv_aload_n hx hb dX9_open_62 rfl (lv_at hl 0 rfl) ?_
              refine lv_iload_n hx hb dX9_open_63 rfl (lv_at hl 3 rfl) ?_
              obtain ⟨r_33, st_31, hc_32, hf⟩ := bnd_some hf
              refine r_ci hp hA (va_runV (As := [.int p2]) (rest := []) ⟨hx, hb, hml, hown, hts⟩ (c_X9_pieceOf l dC dI h0 ar ca p2 _ _ _ hc_32 _) (cwV 1 hts gq_X9_open_X9_pieceOf_313 rfl rfl rfl (by decide +kernel) ⟨Nat.le_of_ble_eq_true rfl, Nat.le_of_ble_eq_true rfl⟩) ⟨Pr.blind _, va_recv hK hp.1 (ci := 11) (q0 := 0) rfl rfl, r_pre hp hK hN hZ hA⟩ rfl rfl hl.1 rfl (lv_room (Nat.le_of_ble_eq_true rfl)) dX9_open_64 ⟨Nat.le_of_ble_eq_true rfl, Nat.le_of_ble_eq_true rfl⟩) (fun H locs hp => ?_)
              refine lv_istore (lv' := [(5, .int r_33), (0, .ref h0), (1, .int p0), (2, .int p1), (3, .int p2), (4, .int p3)]) hx hb dX9_open_67 hl (by decide) rfl (fun ls hl => ?_)
              refine lv_iload hx hb dX9_open_69 (lv_at hl 0 rfl) ?_
              refine lv_iconst (v := (-1)) hx hb dX9_open_71 (by decide) ?_
              refine lv_icmp_ne (tgt := 79) hx hb dX9_open_72 (by decide) (fun c_34 => ?_) (fun c_34 => ?_)
              · have hf := pif_f c_34 hf
                refine lv_aload_n hx hb dX9_open_79 rfl (lv_at hl 1 rfl) ?_
                refine r_ga hx hb hts iRX9 hown hK hp 45 (by decide) (by decide) (hts (.fieldLink RX9 93 "RecordBenchModel" "pieceTo" "[I") (by decide +kernel)) dX9_open_80 ?_
                refine lv_iload hx hb dX9_open_83 (lv_at hl 0 rfl) ?_
                obtain ⟨g_35, hf⟩ := gd_some hf
                refine r_ai (n := 64) hx hb hK hp 16 45 rfl rfl rfl g_35 dX9_open_85 ?_
                refine lv_aload_n hx hb dX9_open_86 rfl (lv_at hl 1 rfl) ?_
                refine r_ga hx hb hts iRX9 hown hK hp 44 (by decide) (by decide) (hts (.fieldLink RX9 90 "RecordBenchModel" "pieceFrom" "[I") (by decide +kernel)) dX9_open_87 ?_
                refine lv_iload hx hb dX9_open_90 (lv_at hl 0 rfl) ?_
                obtain ⟨g_36, hf⟩ := gd_some hf
                refine r_ai (n := 64) hx hb hK hp 15 44 rfl rfl rfl g_36 dX9_open_92 ?_
                refine lv_isub hx hb dX9_open_93 ?_
                exact J94 (p3, r_33, ((gF st_31 45 r_33.toNatClampNeg) - (gF st_31 44 r_33.toNatClampNeg)), st_31) _ _ _ ⟨hf, hp, (lv_sub hl [1, 5, 0] rfl)⟩
              · have hf := pif_t c_34 hf
                refine lv_iconst (v := 0) hx hb dX9_open_75 (by decide) ?_
                refine lv_goto (tgt := 94) hx hb dX9_open_76 (by decide) ?_
                exact J94 (p3, r_33, 0, st_31) _ _ _ ⟨hf, hp, (lv_sub hl [1, 5, 0] rfl)⟩
            · have hf := pif_t c_30 hf
              refine lv_bipush (v := (-2)) hx hb dX9_open_59 (by decide) ?_
              obtain ⟨e1, e2⟩ := pr_some hf
              exact W.iret (v := (-2)) hx hb hr (fun t ht hW => ⟨⟨(-2), (), rfl, e1, Rp.end e2 hp hK ht hW⟩, hp.2.2.F ht⟩) hp.2.2.2.2 dX9_open_61
          · have hf := pif_f c_26 hf
            refine lv_iconst (v := (-1)) hx hb dX9_open_48 (by decide) ?_
            obtain ⟨e1, e2⟩ := pr_some hf
            exact W.iret (v := (-1)) hx hb hr (fun t ht hW => ⟨⟨(-1), (), rfl, e1, Rp.end e2 hp hK ht hW⟩, hp.2.2.F ht⟩) hp.2.2.2.2 dX9_open_49
