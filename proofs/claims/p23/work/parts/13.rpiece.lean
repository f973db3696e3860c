theorem dX9_get_0 : decode cX9_get 0 = .ok (.iload_n 1, 1) := by decide +kernel
theorem dX9_get_1 : decode cX9_get 1 = .ok (.invokestatic 249, 3) := by decide +kernel
theorem dX9_get_100 : decode cX9_get 100 = .ok (.aload_n 0, 1) := by decide +kernel
theorem dX9_get_101 : decode cX9_get 101 = .ok (.getfield 93, 3) := by decide +kernel
theorem dX9_get_104 : decode cX9_get 104 = .ok (.iload 5, 2) := by decide +kernel
theorem dX9_get_106 : decode cX9_get 106 = .ok (.iaload, 1) := by decide +kernel
theorem dX9_get_107 : decode cX9_get 107 = .ok (.aload_n 0, 1) := by decide +kernel
theorem dX9_get_108 : decode cX9_get 108 = .ok (.getfield 90, 3) := by decide +kernel
theorem dX9_get_111 : decode cX9_get 111 = .ok (.iload 5, 2) := by decide +kernel
theorem dX9_get_113 : decode cX9_get 113 = .ok (.iaload, 1) := by decide +kernel
theorem dX9_get_114 : decode cX9_get 114 = .ok (.isub, 1) := by decide +kernel
theorem dX9_get_115 : decode cX9_get 115 = .ok (.i2l, 1) := by decide +kernel
theorem dX9_get_116 : decode cX9_get 116 = .ok (.goto 10, 3) := by decide +kernel
theorem dX9_get_119 : decode cX9_get 119 = .ok (.aload_n 0, 1) := by decide +kernel
theorem dX9_get_12 : decode cX9_get 12 = .ok (.ifCond .eq 32, 3) := by decide +kernel
theorem dX9_get_120 : decode cX9_get 120 = .ok (.getfield 96, 3) := by decide +kernel
theorem dX9_get_123 : decode cX9_get 123 = .ok (.iload 5, 2) := by decide +kernel
theorem dX9_get_125 : decode cX9_get 125 = .ok (.laload, 1) := by decide +kernel
theorem dX9_get_126 : decode cX9_get 126 = .ok (.lreturn, 1) := by decide +kernel
theorem dX9_get_15 : decode cX9_get 15 = .ok (.aload_n 0, 1) := by decide +kernel
theorem dX9_get_16 : decode cX9_get 16 = .ok (.iload_n 2, 1) := by decide +kernel
theorem dX9_get_17 : decode cX9_get 17 = .ok (.iload_n 3, 1) := by decide +kernel
theorem dX9_get_18 : decode cX9_get 18 = .ok (.invokevirtual 246, 3) := by decide +kernel
theorem dX9_get_21 : decode cX9_get 21 = .ok (.ifCond .eq 23, 3) := by decide +kernel
theorem dX9_get_24 : decode cX9_get 24 = .ok (.iload 4, 2) := by decide +kernel
theorem dX9_get_26 : decode cX9_get 26 = .ok (.ifCond .eq 9, 3) := by decide +kernel
theorem dX9_get_29 : decode cX9_get 29 = .ok (.iload 4, 2) := by decide +kernel
theorem dX9_get_31 : decode cX9_get 31 = .ok (.iconst 1, 1) := by decide +kernel
theorem dX9_get_32 : decode cX9_get 32 = .ok (.if_icmp .ne 12, 3) := by decide +kernel
theorem dX9_get_35 : decode cX9_get 35 = .ok (.aload_n 0, 1) := by decide +kernel
theorem dX9_get_36 : decode cX9_get 36 = .ok (.iload_n 1, 1) := by decide +kernel
theorem dX9_get_37 : decode cX9_get 37 = .ok (.iload_n 2, 1) := by decide +kernel
theorem dX9_get_38 : decode cX9_get 38 = .ok (.invokevirtual 308, 3) := by decide +kernel
theorem dX9_get_4 : decode cX9_get 4 = .ok (.ifCond .eq 40, 3) := by decide +kernel
theorem dX9_get_41 : decode cX9_get 41 = .ok (.ifCond .ne 7, 3) := by decide +kernel
theorem dX9_get_44 : decode cX9_get 44 = .ok (.ldc2_w 311, 3) := by decide +kernel
theorem dX9_get_47 : decode cX9_get 47 = .ok (.lreturn, 1) := by decide +kernel
theorem dX9_get_48 : decode cX9_get 48 = .ok (.aload_n 0, 1) := by decide +kernel
theorem dX9_get_49 : decode cX9_get 49 = .ok (.iload_n 3, 1) := by decide +kernel
theorem dX9_get_50 : decode cX9_get 50 = .ok (.invokevirtual 313, 3) := by decide +kernel
theorem dX9_get_53 : decode cX9_get 53 = .ok (.istore 5, 2) := by decide +kernel
theorem dX9_get_55 : decode cX9_get 55 = .ok (.iload 4, 2) := by decide +kernel
theorem dX9_get_57 : decode cX9_get 57 = .ok (.ifCond .ne 15, 3) := by decide +kernel
theorem dX9_get_60 : decode cX9_get 60 = .ok (.iload 5, 2) := by decide +kernel
theorem dX9_get_62 : decode cX9_get 62 = .ok (.iconst (-1), 1) := by decide +kernel
theorem dX9_get_63 : decode cX9_get 63 = .ok (.if_icmp .ne 7, 3) := by decide +kernel
theorem dX9_get_66 : decode cX9_get 66 = .ok (.lconst 0, 1) := by decide +kernel
theorem dX9_get_67 : decode cX9_get 67 = .ok (.goto 4, 3) := by decide +kernel
theorem dX9_get_7 : decode cX9_get 7 = .ok (.aload_n 0, 1) := by decide +kernel
theorem dX9_get_70 : decode cX9_get 70 = .ok (.lconst 1, 1) := by decide +kernel
theorem dX9_get_71 : decode cX9_get 71 = .ok (.lreturn, 1) := by decide +kernel
theorem dX9_get_72 : decode cX9_get 72 = .ok (.iload 5, 2) := by decide +kernel
theorem dX9_get_74 : decode cX9_get 74 = .ok (.iconst (-1), 1) := by decide +kernel
theorem dX9_get_75 : decode cX9_get 75 = .ok (.if_icmp .ne 10, 3) := by decide +kernel
theorem dX9_get_78 : decode cX9_get 78 = .ok (.aload_n 0, 1) := by decide +kernel
theorem dX9_get_79 : decode cX9_get 79 = .ok (.iload_n 2, 1) := by decide +kernel
theorem dX9_get_8 : decode cX9_get 8 = .ok (.iload_n 2, 1) := by decide +kernel
theorem dX9_get_80 : decode cX9_get 80 = .ok (.iload_n 3, 1) := by decide +kernel
theorem dX9_get_81 : decode cX9_get 81 = .ok (.invokevirtual 317, 3) := by decide +kernel
theorem dX9_get_84 : decode cX9_get 84 = .ok (.lreturn, 1) := by decide +kernel
theorem dX9_get_85 : decode cX9_get 85 = .ok (.aload_n 0, 1) := by decide +kernel
theorem dX9_get_86 : decode cX9_get 86 = .ok (.getfield 13, 3) := by decide +kernel
theorem dX9_get_89 : decode cX9_get 89 = .ok (.bipush 31, 2) := by decide +kernel
theorem dX9_get_9 : decode cX9_get 9 = .ok (.invokevirtual 239, 3) := by decide +kernel
theorem dX9_get_91 : decode cX9_get 91 = .ok (.iload_n 2, 1) := by decide +kernel
theorem dX9_get_92 : decode cX9_get 92 = .ok (.imul, 1) := by decide +kernel
theorem dX9_get_93 : decode cX9_get 93 = .ok (.iload_n 3, 1) := by decide +kernel
theorem dX9_get_94 : decode cX9_get 94 = .ok (.iadd, 1) := by decide +kernel
theorem dX9_get_95 : decode cX9_get 95 = .ok (.iaload, 1) := by decide +kernel
theorem dX9_get_96 : decode cX9_get 96 = .ok (.iconst 4, 1) := by decide +kernel
theorem dX9_get_97 : decode cX9_get 97 = .ok (.if_icmp .le 22, 3) := by decide +kernel
theorem dX9_isRead_0 : decode cX9_isRead 0 = .ok (.aload_n 0, 1) := by decide +kernel
theorem dX9_isRead_1 : decode cX9_isRead 1 = .ok (.iload_n 1, 1) := by decide +kernel
theorem dX9_isRead_10 : decode cX9_isRead 10 = .ok (.iload_n 1, 1) := by decide +kernel
theorem dX9_isRead_11 : decode cX9_isRead 11 = .ok (.iaload, 1) := by decide +kernel
theorem dX9_isRead_12 : decode cX9_isRead 12 = .ok (.iload_n 2, 1) := by decide +kernel
theorem dX9_isRead_13 : decode cX9_isRead 13 = .ok (.invokevirtual 305, 3) := by decide +kernel
theorem dX9_isRead_16 : decode cX9_isRead 16 = .ok (.ireturn, 1) := by decide +kernel
theorem dX9_isRead_2 : decode cX9_isRead 2 = .ok (.invokevirtual 302, 3) := by decide +kernel
theorem dX9_isRead_5 : decode cX9_isRead 5 = .ok (.aload_n 0, 1) := by decide +kernel
theorem dX9_isRead_6 : decode cX9_isRead 6 = .ok (.aload_n 0, 1) := by decide +kernel
theorem dX9_isRead_7 : decode cX9_isRead 7 = .ok (.getfield 78, 3) := by decide +kernel
theorem dX9_isText_0 : decode cX9_isText 0 = .ok (.iload_n 2, 1) := by decide +kernel
theorem dX9_isText_1 : decode cX9_isText 1 = .ok (.iload_n 1, 1) := by decide +kernel
theorem dX9_isText_10 : decode cX9_isText 10 = .ok (.iload_n 1, 1) := by decide +kernel
theorem dX9_isText_11 : decode cX9_isText 11 = .ok (.istore_n 3, 1) := by decide +kernel
theorem dX9_isText_12 : decode cX9_isText 12 = .ok (.iload_n 3, 1) := by decide +kernel
theorem dX9_isText_13 : decode cX9_isText 13 = .ok (.iload_n 2, 1) := by decide +kernel
theorem dX9_isText_14 : decode cX9_isText 14 = .ok (.if_icmp .ge 27, 3) := by decide +kernel
theorem dX9_isText_17 : decode cX9_isText 17 = .ok (.aload_n 0, 1) := by decide +kernel
theorem dX9_isText_18 : decode cX9_isText 18 = .ok (.iload_n 3, 1) := by decide +kernel
theorem dX9_isText_19 : decode cX9_isText 19 = .ok (.iaload, 1) := by decide +kernel
theorem dX9_isText_2 : decode cX9_isText 2 = .ok (.isub, 1) := by decide +kernel
theorem dX9_isText_20 : decode cX9_isText 20 = .ok (.bipush 32, 2) := by decide +kernel
theorem dX9_isText_22 : decode cX9_isText 22 = .ok (.if_icmp .lt 11, 3) := by decide +kernel
theorem dX9_isText_25 : decode cX9_isText 25 = .ok (.aload_n 0, 1) := by decide +kernel
theorem dX9_isText_26 : decode cX9_isText 26 = .ok (.iload_n 3, 1) := by decide +kernel
theorem dX9_isText_27 : decode cX9_isText 27 = .ok (.iaload, 1) := by decide +kernel
theorem dX9_isText_28 : decode cX9_isText 28 = .ok (.bipush 126, 2) := by decide +kernel
theorem dX9_isText_3 : decode cX9_isText 3 = .ok (.bipush 12, 2) := by decide +kernel
theorem dX9_isText_30 : decode cX9_isText 30 = .ok (.if_icmp .le 5, 3) := by decide +kernel
theorem dX9_isText_33 : decode cX9_isText 33 = .ok (.iconst 0, 1) := by decide +kernel
theorem dX9_isText_34 : decode cX9_isText 34 = .ok (.ireturn, 1) := by decide +kernel
theorem dX9_isText_35 : decode cX9_isText 35 = .ok (.iinc 3 1, 3) := by decide +kernel
theorem dX9_isText_38 : decode cX9_isText 38 = .ok (.goto (-26), 3) := by decide +kernel
theorem dX9_isText_41 : decode cX9_isText 41 = .ok (.iconst 1, 1) := by decide +kernel
theorem dX9_isText_42 : decode cX9_isText 42 = .ok (.ireturn, 1) := by decide +kernel
theorem dX9_isText_5 : decode cX9_isText 5 = .ok (.if_icmp .le 5, 3) := by decide +kernel
theorem dX9_isText_8 : decode cX9_isText 8 = .ok (.iconst 0, 1) := by decide +kernel
theorem dX9_isText_9 : decode cX9_isText 9 = .ok (.ireturn, 1) := by decide +kernel
theorem dX9_kept_0 : decode cX9_kept 0 = .ok (.iload_n 1, 1) := by decide +kernel
theorem dX9_kept_1 : decode cX9_kept 1 = .ok (.invokestatic 249, 3) := by decide +kernel
theorem dX9_kept_12 : decode cX9_kept 12 = .ok (.ifCond .eq 12, 3) := by decide +kernel
theorem dX9_kept_15 : decode cX9_kept 15 = .ok (.aload_n 0, 1) := by decide +kernel
theorem dX9_kept_16 : decode cX9_kept 16 = .ok (.iload_n 1, 1) := by decide +kernel
theorem dX9_kept_17 : decode cX9_kept 17 = .ok (.iload_n 2, 1) := by decide +kernel
theorem dX9_kept_18 : decode cX9_kept 18 = .ok (.invokevirtual 308, 3) := by decide +kernel
theorem dX9_kept_21 : decode cX9_kept 21 = .ok (.ifCond .ne 5, 3) := by decide +kernel
theorem dX9_kept_24 : decode cX9_kept 24 = .ok (.iconst (-1), 1) := by decide +kernel
theorem dX9_kept_25 : decode cX9_kept 25 = .ok (.ireturn, 1) := by decide +kernel
theorem dX9_kept_26 : decode cX9_kept 26 = .ok (.iconst 0, 1) := by decide +kernel
theorem dX9_kept_27 : decode cX9_kept 27 = .ok (.istore_n 3, 1) := by decide +kernel
theorem dX9_kept_28 : decode cX9_kept 28 = .ok (.iconst 0, 1) := by decide +kernel
theorem dX9_kept_29 : decode cX9_kept 29 = .ok (.istore 4, 2) := by decide +kernel
theorem dX9_kept_31 : decode cX9_kept 31 = .ok (.iload 4, 2) := by decide +kernel
theorem dX9_kept_33 : decode cX9_kept 33 = .ok (.aload_n 0, 1) := by decide +kernel
theorem dX9_kept_34 : decode cX9_kept 34 = .ok (.getfield 291, 3) := by decide +kernel
theorem dX9_kept_37 : decode cX9_kept 37 = .ok (.if_icmp .ge 27, 3) := by decide +kernel
theorem dX9_kept_4 : decode cX9_kept 4 = .ok (.ifCond .eq 20, 3) := by decide +kernel
theorem dX9_kept_40 : decode cX9_kept 40 = .ok (.aload_n 0, 1) := by decide +kernel
theorem dX9_kept_41 : decode cX9_kept 41 = .ok (.iload_n 2, 1) := by decide +kernel
theorem dX9_kept_42 : decode cX9_kept 42 = .ok (.aload_n 0, 1) := by decide +kernel
theorem dX9_kept_43 : decode cX9_kept 43 = .ok (.getfield 84, 3) := by decide +kernel
theorem dX9_kept_46 : decode cX9_kept 46 = .ok (.iload 4, 2) := by decide +kernel
theorem dX9_kept_48 : decode cX9_kept 48 = .ok (.iaload, 1) := by decide +kernel
theorem dX9_kept_49 : decode cX9_kept 49 = .ok (.invokevirtual 246, 3) := by decide +kernel
theorem dX9_kept_52 : decode cX9_kept 52 = .ok (.ifCond .ne 6, 3) := by decide +kernel
theorem dX9_kept_55 : decode cX9_kept 55 = .ok (.iinc 3 1, 3) := by decide +kernel
theorem dX9_kept_58 : decode cX9_kept 58 = .ok (.iinc 4 1, 3) := by decide +kernel
theorem dX9_kept_61 : decode cX9_kept 61 = .ok (.goto (-30), 3) := by decide +kernel
theorem dX9_kept_64 : decode cX9_kept 64 = .ok (.iload_n 3, 1) := by decide +kernel
theorem dX9_kept_65 : decode cX9_kept 65 = .ok (.ireturn, 1) := by decide +kernel
theorem dX9_kept_7 : decode cX9_kept 7 = .ok (.aload_n 0, 1) := by decide +kernel
theorem dX9_kept_8 : decode cX9_kept 8 = .ok (.iload_n 2, 1) := by decide +kernel
theorem dX9_kept_9 : decode cX9_kept 9 = .ok (.invokevirtual 239, 3) := by decide +kernel
theorem dX9_pieceOf_0 : decode cX9_pieceOf 0 = .ok (.iconst 0, 1) := by decide +kernel
theorem dX9_pieceOf_1 : decode cX9_pieceOf 1 = .ok (.istore_n 2, 1) := by decide +kernel
theorem dX9_pieceOf_10 : decode cX9_pieceOf 10 = .ok (.aload_n 0, 1) := by decide +kernel
theorem dX9_pieceOf_11 : decode cX9_pieceOf 11 = .ok (.getfield 84, 3) := by decide +kernel
theorem dX9_pieceOf_14 : decode cX9_pieceOf 14 = .ok (.iload_n 2, 1) := by decide +kernel
theorem dX9_pieceOf_15 : decode cX9_pieceOf 15 = .ok (.iaload, 1) := by decide +kernel
theorem dX9_pieceOf_16 : decode cX9_pieceOf 16 = .ok (.iload_n 1, 1) := by decide +kernel
theorem dX9_pieceOf_17 : decode cX9_pieceOf 17 = .ok (.if_icmp .ne 5, 3) := by decide +kernel
theorem dX9_pieceOf_2 : decode cX9_pieceOf 2 = .ok (.iload_n 2, 1) := by decide +kernel
theorem dX9_pieceOf_20 : decode cX9_pieceOf 20 = .ok (.iload_n 2, 1) := by decide +kernel
theorem dX9_pieceOf_21 : decode cX9_pieceOf 21 = .ok (.ireturn, 1) := by decide +kernel
theorem dX9_pieceOf_22 : decode cX9_pieceOf 22 = .ok (.iinc 2 1, 3) := by decide +kernel
theorem dX9_pieceOf_25 : decode cX9_pieceOf 25 = .ok (.goto (-23), 3) := by decide +kernel
theorem dX9_pieceOf_28 : decode cX9_pieceOf 28 = .ok (.iconst (-1), 1) := by decide +kernel
theorem dX9_pieceOf_29 : decode cX9_pieceOf 29 = .ok (.ireturn, 1) := by decide +kernel
theorem dX9_pieceOf_3 : decode cX9_pieceOf 3 = .ok (.aload_n 0, 1) := by decide +kernel
theorem dX9_pieceOf_4 : decode cX9_pieceOf 4 = .ok (.getfield 291, 3) := by decide +kernel
theorem dX9_pieceOf_7 : decode cX9_pieceOf 7 = .ok (.if_icmp .ge 21, 3) := by decide +kernel
theorem dX9_piece_0 : decode cX9_piece 0 = .ok (.aload_n 0, 1) := by decide +kernel
theorem dX9_piece_1 : decode cX9_piece 1 = .ok (.iconst 1, 1) := by decide +kernel
theorem dX9_piece_10 : decode cX9_piece 10 = .ok (.aload_n 0, 1) := by decide +kernel
theorem dX9_piece_101 : decode cX9_piece 101 = .ok (.aload_n 0, 1) := by decide +kernel
theorem dX9_piece_102 : decode cX9_piece 102 = .ok (.aload_n 0, 1) := by decide +kernel
theorem dX9_piece_103 : decode cX9_piece 103 = .ok (.getfield 257, 3) := by decide +kernel
theorem dX9_piece_106 : decode cX9_piece 106 = .ok (.putfield 275, 3) := by decide +kernel
theorem dX9_piece_109 : decode cX9_piece 109 = .ok (.aload_n 0, 1) := by decide +kernel
theorem dX9_piece_11 : decode cX9_piece 11 = .ok (.iload_n 1, 1) := by decide +kernel
theorem dX9_piece_110 : decode cX9_piece 110 = .ok (.getfield 267, 3) := by decide +kernel
theorem dX9_piece_113 : decode cX9_piece 113 = .ok (.ifCond .eq 31, 3) := by decide +kernel
theorem dX9_piece_116 : decode cX9_piece 116 = .ok (.aload_n 0, 1) := by decide +kernel
theorem dX9_piece_117 : decode cX9_piece 117 = .ok (.getfield 252, 3) := by decide +kernel
theorem dX9_piece_12 : decode cX9_piece 12 = .ok (.iload_n 2, 1) := by decide +kernel
theorem dX9_piece_120 : decode cX9_piece 120 = .ok (.lconst 0, 1) := by decide +kernel
theorem dX9_piece_121 : decode cX9_piece 121 = .ok (.lcmp, 1) := by decide +kernel
theorem dX9_piece_122 : decode cX9_piece 122 = .ok (.ifCond .lt 18, 3) := by decide +kernel
theorem dX9_piece_125 : decode cX9_piece 125 = .ok (.aload_n 0, 1) := by decide +kernel
theorem dX9_piece_126 : decode cX9_piece 126 = .ok (.getfield 252, 3) := by decide +kernel
theorem dX9_piece_129 : decode cX9_piece 129 = .ok (.iload_n 2, 1) := by decide +kernel
theorem dX9_piece_13 : decode cX9_piece 13 = .ok (.invokevirtual 265, 3) := by decide +kernel
theorem dX9_piece_130 : decode cX9_piece 130 = .ok (.aload_n 0, 1) := by decide +kernel
theorem dX9_piece_131 : decode cX9_piece 131 = .ok (.getfield 257, 3) := by decide +kernel
theorem dX9_piece_134 : decode cX9_piece 134 = .ok (.isub, 1) := by decide +kernel
theorem dX9_piece_135 : decode cX9_piece 135 = .ok (.i2l, 1) := by decide +kernel
theorem dX9_piece_136 : decode cX9_piece 136 = .ok (.lcmp, 1) := by decide +kernel
theorem dX9_piece_137 : decode cX9_piece 137 = .ok (.ifCond .le 7, 3) := by decide +kernel
theorem dX9_piece_140 : decode cX9_piece 140 = .ok (.iconst 1, 1) := by decide +kernel
theorem dX9_piece_141 : decode cX9_piece 141 = .ok (.goto 4, 3) := by decide +kernel
theorem dX9_piece_144 : decode cX9_piece 144 = .ok (.iconst 0, 1) := by decide +kernel
theorem dX9_piece_145 : decode cX9_piece 145 = .ok (.istore 10, 2) := by decide +kernel
theorem dX9_piece_147 : decode cX9_piece 147 = .ok (.aload_n 0, 1) := by decide +kernel
theorem dX9_piece_148 : decode cX9_piece 148 = .ok (.aload_n 0, 1) := by decide +kernel
theorem dX9_piece_149 : decode cX9_piece 149 = .ok (.getfield 267, 3) := by decide +kernel
theorem dX9_piece_152 : decode cX9_piece 152 = .ok (.ifCond .eq 21, 3) := by decide +kernel
theorem dX9_piece_155 : decode cX9_piece 155 = .ok (.iload 10, 2) := by decide +kernel
theorem dX9_piece_157 : decode cX9_piece 157 = .ok (.ifCond .ne 16, 3) := by decide +kernel
theorem dX9_piece_16 : decode cX9_piece 16 = .ok (.ifCond .ne 4, 3) := by decide +kernel
theorem dX9_piece_160 : decode cX9_piece 160 = .ok (.aload_n 0, 1) := by decide +kernel
theorem dX9_piece_161 : decode cX9_piece 161 = .ok (.getfield 257, 3) := by decide +kernel
theorem dX9_piece_164 : decode cX9_piece 164 = .ok (.aload_n 0, 1) := by decide +kernel
theorem dX9_piece_165 : decode cX9_piece 165 = .ok (.getfield 252, 3) := by decide +kernel
theorem dX9_piece_168 : decode cX9_piece 168 = .ok (.l2i, 1) := by decide +kernel
theorem dX9_piece_169 : decode cX9_piece 169 = .ok (.iadd, 1) := by decide +kernel
theorem dX9_piece_170 : decode cX9_piece 170 = .ok (.goto 7, 3) := by decide +kernel
theorem dX9_piece_173 : decode cX9_piece 173 = .ok (.aload_n 0, 1) := by decide +kernel
theorem dX9_piece_174 : decode cX9_piece 174 = .ok (.getfield 257, 3) := by decide +kernel
theorem dX9_piece_177 : decode cX9_piece 177 = .ok (.putfield 278, 3) := by decide +kernel
theorem dX9_piece_180 : decode cX9_piece 180 = .ok (.aload_n 0, 1) := by decide +kernel
theorem dX9_piece_181 : decode cX9_piece 181 = .ok (.iconst 0, 1) := by decide +kernel
theorem dX9_piece_182 : decode cX9_piece 182 = .ok (.putfield 260, 3) := by decide +kernel
theorem dX9_piece_185 : decode cX9_piece 185 = .ok (.aload_n 0, 1) := by decide +kernel
theorem dX9_piece_186 : decode cX9_piece 186 = .ok (.iload_n 3, 1) := by decide +kernel
theorem dX9_piece_187 : decode cX9_piece 187 = .ok (.aload_n 0, 1) := by decide +kernel
theorem dX9_piece_188 : decode cX9_piece 188 = .ok (.getfield 263, 3) := by decide +kernel
theorem dX9_piece_19 : decode cX9_piece 19 = .ok (.return_, 1) := by decide +kernel
theorem dX9_piece_191 : decode cX9_piece 191 = .ok (.invokevirtual 246, 3) := by decide +kernel
theorem dX9_piece_194 : decode cX9_piece 194 = .ok (.istore 11, 2) := by decide +kernel
theorem dX9_piece_196 : decode cX9_piece 196 = .ok (.aload_n 0, 1) := by decide +kernel
theorem dX9_piece_197 : decode cX9_piece 197 = .ok (.getfield 13, 3) := by decide +kernel
theorem dX9_piece_2 : decode cX9_piece 2 = .ok (.putfield 260, 3) := by decide +kernel
theorem dX9_piece_20 : decode cX9_piece 20 = .ok (.aload_n 0, 1) := by decide +kernel
theorem dX9_piece_200 : decode cX9_piece 200 = .ok (.bipush 31, 2) := by decide +kernel
theorem dX9_piece_202 : decode cX9_piece 202 = .ok (.iload_n 3, 1) := by decide +kernel
theorem dX9_piece_203 : decode cX9_piece 203 = .ok (.imul, 1) := by decide +kernel
theorem dX9_piece_204 : decode cX9_piece 204 = .ok (.aload_n 0, 1) := by decide +kernel
theorem dX9_piece_205 : decode cX9_piece 205 = .ok (.getfield 263, 3) := by decide +kernel
theorem dX9_piece_208 : decode cX9_piece 208 = .ok (.iadd, 1) := by decide +kernel
theorem dX9_piece_209 : decode cX9_piece 209 = .ok (.iaload, 1) := by decide +kernel
theorem dX9_piece_21 : decode cX9_piece 21 = .ok (.getfield 252, 3) := by decide +kernel
theorem dX9_piece_210 : decode cX9_piece 210 = .ok (.istore 12, 2) := by decide +kernel
theorem dX9_piece_212 : decode cX9_piece 212 = .ok (.aload_n 0, 1) := by decide +kernel
theorem dX9_piece_213 : decode cX9_piece 213 = .ok (.getfield 17, 3) := by decide +kernel
theorem dX9_piece_216 : decode cX9_piece 216 = .ok (.bipush 31, 2) := by decide +kernel
theorem dX9_piece_218 : decode cX9_piece 218 = .ok (.iload_n 3, 1) := by decide +kernel
theorem dX9_piece_219 : decode cX9_piece 219 = .ok (.imul, 1) := by decide +kernel
theorem dX9_piece_220 : decode cX9_piece 220 = .ok (.aload_n 0, 1) := by decide +kernel
theorem dX9_piece_221 : decode cX9_piece 221 = .ok (.getfield 263, 3) := by decide +kernel
theorem dX9_piece_224 : decode cX9_piece 224 = .ok (.iadd, 1) := by decide +kernel
theorem dX9_piece_225 : decode cX9_piece 225 = .ok (.iaload, 1) := by decide +kernel
theorem dX9_piece_226 : decode cX9_piece 226 = .ok (.istore 13, 2) := by decide +kernel
theorem dX9_piece_228 : decode cX9_piece 228 = .ok (.aload_n 0, 1) := by decide +kernel
theorem dX9_piece_229 : decode cX9_piece 229 = .ok (.getfield 263, 3) := by decide +kernel
theorem dX9_piece_232 : decode cX9_piece 232 = .ok (.ifCond .ne 11, 3) := by decide +kernel
theorem dX9_piece_235 : decode cX9_piece 235 = .ok (.aload_n 0, 1) := by decide +kernel
theorem dX9_piece_236 : decode cX9_piece 236 = .ok (.iconst 2, 1) := by decide +kernel
theorem dX9_piece_237 : decode cX9_piece 237 = .ok (.putfield 260, 3) := by decide +kernel
theorem dX9_piece_24 : decode cX9_piece 24 = .ok (.lstore 6, 2) := by decide +kernel
theorem dX9_piece_240 : decode cX9_piece 240 = .ok (.goto 150, 3) := by decide +kernel
theorem dX9_piece_243 : decode cX9_piece 243 = .ok (.iload 10, 2) := by decide +kernel
theorem dX9_piece_245 : decode cX9_piece 245 = .ok (.ifCond .eq 11, 3) := by decide +kernel
theorem dX9_piece_248 : decode cX9_piece 248 = .ok (.aload_n 0, 1) := by decide +kernel
theorem dX9_piece_249 : decode cX9_piece 249 = .ok (.iconst 3, 1) := by decide +kernel
theorem dX9_piece_250 : decode cX9_piece 250 = .ok (.putfield 260, 3) := by decide +kernel
theorem dX9_piece_253 : decode cX9_piece 253 = .ok (.goto 137, 3) := by decide +kernel
theorem dX9_piece_256 : decode cX9_piece 256 = .ok (.iload 11, 2) := by decide +kernel
theorem dX9_piece_258 : decode cX9_piece 258 = .ok (.ifCond .eq 29, 3) := by decide +kernel
theorem dX9_piece_26 : decode cX9_piece 26 = .ok (.aload_n 0, 1) := by decide +kernel
theorem dX9_piece_261 : decode cX9_piece 261 = .ok (.aload_n 0, 1) := by decide +kernel
theorem dX9_piece_262 : decode cX9_piece 262 = .ok (.getfield 267, 3) := by decide +kernel
theorem dX9_piece_265 : decode cX9_piece 265 = .ok (.iload 12, 2) := by decide +kernel
theorem dX9_piece_267 : decode cX9_piece 267 = .ok (.iconst 4, 1) := by decide +kernel
theorem dX9_piece_268 : decode cX9_piece 268 = .ok (.if_icmp .le 7, 3) := by decide +kernel
theorem dX9_piece_27 : decode cX9_piece 27 = .ok (.lload 6, 2) := by decide +kernel
theorem dX9_piece_271 : decode cX9_piece 271 = .ok (.iconst 1, 1) := by decide +kernel
theorem dX9_piece_272 : decode cX9_piece 272 = .ok (.goto 4, 3) := by decide +kernel
theorem dX9_piece_275 : decode cX9_piece 275 = .ok (.iconst 0, 1) := by decide +kernel
theorem dX9_piece_276 : decode cX9_piece 276 = .ok (.if_icmp .eq 11, 3) := by decide +kernel
theorem dX9_piece_279 : decode cX9_piece 279 = .ok (.aload_n 0, 1) := by decide +kernel
theorem dX9_piece_280 : decode cX9_piece 280 = .ok (.iconst 4, 1) := by decide +kernel
theorem dX9_piece_281 : decode cX9_piece 281 = .ok (.putfield 260, 3) := by decide +kernel
theorem dX9_piece_284 : decode cX9_piece 284 = .ok (.goto 106, 3) := by decide +kernel
theorem dX9_piece_287 : decode cX9_piece 287 = .ok (.iload 11, 2) := by decide +kernel
theorem dX9_piece_289 : decode cX9_piece 289 = .ok (.ifCond .eq 56, 3) := by decide +kernel
theorem dX9_piece_29 : decode cX9_piece 29 = .ok (.lconst 1, 1) := by decide +kernel
theorem dX9_piece_292 : decode cX9_piece 292 = .ok (.iload 12, 2) := by decide +kernel
theorem dX9_piece_294 : decode cX9_piece 294 = .ok (.iconst 5, 1) := by decide +kernel
theorem dX9_piece_295 : decode cX9_piece 295 = .ok (.if_icmp .ge 18, 3) := by decide +kernel
theorem dX9_piece_298 : decode cX9_piece 298 = .ok (.aload_n 0, 1) := by decide +kernel
theorem dX9_piece_299 : decode cX9_piece 299 = .ok (.getfield 273, 3) := by decide +kernel
theorem dX9_piece_30 : decode cX9_piece 30 = .ok (.land, 1) := by decide +kernel
theorem dX9_piece_302 : decode cX9_piece 302 = .ok (.iload 12, 2) := by decide +kernel
theorem dX9_piece_304 : decode cX9_piece 304 = .ok (.invokestatic 229, 3) := by decide +kernel
theorem dX9_piece_307 : decode cX9_piece 307 = .ok (.ifCond .ne 38, 3) := by decide +kernel
theorem dX9_piece_31 : decode cX9_piece 31 = .ok (.lconst 1, 1) := by decide +kernel
theorem dX9_piece_310 : decode cX9_piece 310 = .ok (.goto 27, 3) := by decide +kernel
theorem dX9_piece_313 : decode cX9_piece 313 = .ok (.iload 12, 2) := by decide +kernel
theorem dX9_piece_315 : decode cX9_piece 315 = .ok (.iconst 5, 1) := by decide +kernel
theorem dX9_piece_316 : decode cX9_piece 316 = .ok (.if_icmp .ne 29, 3) := by decide +kernel
theorem dX9_piece_319 : decode cX9_piece 319 = .ok (.aload_n 0, 1) := by decide +kernel
theorem dX9_piece_32 : decode cX9_piece 32 = .ok (.lcmp, 1) := by decide +kernel
theorem dX9_piece_320 : decode cX9_piece 320 = .ok (.getfield 81, 3) := by decide +kernel
theorem dX9_piece_323 : decode cX9_piece 323 = .ok (.aload_n 0, 1) := by decide +kernel
theorem dX9_piece_324 : decode cX9_piece 324 = .ok (.getfield 275, 3) := by decide +kernel
theorem dX9_piece_327 : decode cX9_piece 327 = .ok (.aload_n 0, 1) := by decide +kernel
theorem dX9_piece_328 : decode cX9_piece 328 = .ok (.getfield 278, 3) := by decide +kernel
theorem dX9_piece_33 : decode cX9_piece 33 = .ok (.ifCond .ne 7, 3) := by decide +kernel
theorem dX9_piece_331 : decode cX9_piece 331 = .ok (.invokestatic 281, 3) := by decide +kernel
theorem dX9_piece_334 : decode cX9_piece 334 = .ok (.ifCond .ne 11, 3) := by decide +kernel
theorem dX9_piece_337 : decode cX9_piece 337 = .ok (.aload_n 0, 1) := by decide +kernel
theorem dX9_piece_338 : decode cX9_piece 338 = .ok (.iconst 5, 1) := by decide +kernel
theorem dX9_piece_339 : decode cX9_piece 339 = .ok (.putfield 260, 3) := by decide +kernel
theorem dX9_piece_342 : decode cX9_piece 342 = .ok (.goto 48, 3) := by decide +kernel
theorem dX9_piece_345 : decode cX9_piece 345 = .ok (.aload_n 0, 1) := by decide +kernel
theorem dX9_piece_346 : decode cX9_piece 346 = .ok (.getfield 263, 3) := by decide +kernel
theorem dX9_piece_349 : decode cX9_piece 349 = .ok (.iload 4, 2) := by decide +kernel
theorem dX9_piece_351 : decode cX9_piece 351 = .ok (.if_icmp .gt 12, 3) := by decide +kernel
theorem dX9_piece_354 : decode cX9_piece 354 = .ok (.aload_n 0, 1) := by decide +kernel
theorem dX9_piece_355 : decode cX9_piece 355 = .ok (.bipush 6, 2) := by decide +kernel
theorem dX9_piece_357 : decode cX9_piece 357 = .ok (.putfield 260, 3) := by decide +kernel
theorem dX9_piece_36 : decode cX9_piece 36 = .ok (.iconst 1, 1) := by decide +kernel
theorem dX9_piece_360 : decode cX9_piece 360 = .ok (.goto 30, 3) := by decide +kernel
theorem dX9_piece_363 : decode cX9_piece 363 = .ok (.iload 11, 2) := by decide +kernel
theorem dX9_piece_365 : decode cX9_piece 365 = .ok (.ifCond .eq 25, 3) := by decide +kernel
theorem dX9_piece_368 : decode cX9_piece 368 = .ok (.iload 13, 2) := by decide +kernel
theorem dX9_piece_37 : decode cX9_piece 37 = .ok (.goto 4, 3) := by decide +kernel
theorem dX9_piece_370 : decode cX9_piece 370 = .ok (.ifCond .le 20, 3) := by decide +kernel
theorem dX9_piece_373 : decode cX9_piece 373 = .ok (.iload 5, 2) := by decide +kernel
theorem dX9_piece_375 : decode cX9_piece 375 = .ok (.iload 13, 2) := by decide +kernel
theorem dX9_piece_377 : decode cX9_piece 377 = .ok (.ishr, 1) := by decide +kernel
theorem dX9_piece_378 : decode cX9_piece 378 = .ok (.iconst 1, 1) := by decide +kernel
theorem dX9_piece_379 : decode cX9_piece 379 = .ok (.iand, 1) := by decide +kernel
theorem dX9_piece_380 : decode cX9_piece 380 = .ok (.iconst 1, 1) := by decide +kernel
theorem dX9_piece_381 : decode cX9_piece 381 = .ok (.if_icmp .ne 9, 3) := by decide +kernel
theorem dX9_piece_384 : decode cX9_piece 384 = .ok (.aload_n 0, 1) := by decide +kernel
theorem dX9_piece_385 : decode cX9_piece 385 = .ok (.bipush 7, 2) := by decide +kernel
theorem dX9_piece_387 : decode cX9_piece 387 = .ok (.putfield 260, 3) := by decide +kernel
theorem dX9_piece_390 : decode cX9_piece 390 = .ok (.return_, 1) := by decide +kernel
theorem dX9_piece_40 : decode cX9_piece 40 = .ok (.iconst 0, 1) := by decide +kernel
theorem dX9_piece_41 : decode cX9_piece 41 = .ok (.putfield 267, 3) := by decide +kernel
theorem dX9_piece_44 : decode cX9_piece 44 = .ok (.lload 6, 2) := by decide +kernel
theorem dX9_piece_46 : decode cX9_piece 46 = .ok (.iconst 1, 1) := by decide +kernel
theorem dX9_piece_47 : decode cX9_piece 47 = .ok (.lushr, 1) := by decide +kernel
theorem dX9_piece_48 : decode cX9_piece 48 = .ok (.lstore 8, 2) := by decide +kernel
theorem dX9_piece_5 : decode cX9_piece 5 = .ok (.aload_n 0, 1) := by decide +kernel
theorem dX9_piece_50 : decode cX9_piece 50 = .ok (.aload_n 0, 1) := by decide +kernel
theorem dX9_piece_51 : decode cX9_piece 51 = .ok (.lload 8, 2) := by decide +kernel
theorem dX9_piece_53 : decode cX9_piece 53 = .ok (.ldc2_w 271, 3) := by decide +kernel
theorem dX9_piece_56 : decode cX9_piece 56 = .ok (.lcmp, 1) := by decide +kernel
theorem dX9_piece_57 : decode cX9_piece 57 = .ok (.ifCond .le 7, 3) := by decide +kernel
theorem dX9_piece_6 : decode cX9_piece 6 = .ok (.iconst 0, 1) := by decide +kernel
theorem dX9_piece_60 : decode cX9_piece 60 = .ok (.iconst 0, 1) := by decide +kernel
theorem dX9_piece_61 : decode cX9_piece 61 = .ok (.goto 6, 3) := by decide +kernel
theorem dX9_piece_64 : decode cX9_piece 64 = .ok (.lload 8, 2) := by decide +kernel
theorem dX9_piece_66 : decode cX9_piece 66 = .ok (.l2i, 1) := by decide +kernel
theorem dX9_piece_67 : decode cX9_piece 67 = .ok (.putfield 263, 3) := by decide +kernel
theorem dX9_piece_7 : decode cX9_piece 7 = .ok (.putfield 263, 3) := by decide +kernel
theorem dX9_piece_70 : decode cX9_piece 70 = .ok (.aload_n 0, 1) := by decide +kernel
theorem dX9_piece_71 : decode cX9_piece 71 = .ok (.aload_n 0, 1) := by decide +kernel
theorem dX9_piece_72 : decode cX9_piece 72 = .ok (.getfield 257, 3) := by decide +kernel
theorem dX9_piece_75 : decode cX9_piece 75 = .ok (.iload_n 2, 1) := by decide +kernel
theorem dX9_piece_76 : decode cX9_piece 76 = .ok (.invokevirtual 265, 3) := by decide +kernel
theorem dX9_piece_79 : decode cX9_piece 79 = .ok (.ifCond .ne 4, 3) := by decide +kernel
theorem dX9_piece_82 : decode cX9_piece 82 = .ok (.return_, 1) := by decide +kernel
theorem dX9_piece_83 : decode cX9_piece 83 = .ok (.aload_n 0, 1) := by decide +kernel
theorem dX9_piece_84 : decode cX9_piece 84 = .ok (.aload_n 0, 1) := by decide +kernel
theorem dX9_piece_85 : decode cX9_piece 85 = .ok (.getfield 252, 3) := by decide +kernel
theorem dX9_piece_88 : decode cX9_piece 88 = .ok (.iconst 1, 1) := by decide +kernel
theorem dX9_piece_89 : decode cX9_piece 89 = .ok (.lushr, 1) := by decide +kernel
theorem dX9_piece_90 : decode cX9_piece 90 = .ok (.aload_n 0, 1) := by decide +kernel
theorem dX9_piece_91 : decode cX9_piece 91 = .ok (.getfield 252, 3) := by decide +kernel
theorem dX9_piece_94 : decode cX9_piece 94 = .ok (.lconst 1, 1) := by decide +kernel
theorem dX9_piece_95 : decode cX9_piece 95 = .ok (.land, 1) := by decide +kernel
theorem dX9_piece_96 : decode cX9_piece 96 = .ok (.lneg, 1) := by decide +kernel
theorem dX9_piece_97 : decode cX9_piece 97 = .ok (.lxor, 1) := by decide +kernel
theorem dX9_piece_98 : decode cX9_piece 98 = .ok (.putfield 273, 3) := by decide +kernel
theorem dX9_read_0 : decode cX9_read 0 = .ok (.iload_n 1, 1) := by decide +kernel
theorem dX9_read_1 : decode cX9_read 1 = .ok (.invokestatic 249, 3) := by decide +kernel
theorem dX9_read_12 : decode cX9_read 12 = .ok (.ifCond .ne 6, 3) := by decide +kernel
theorem dX9_read_15 : decode cX9_read 15 = .ok (.bipush (-2), 2) := by decide +kernel
theorem dX9_read_17 : decode cX9_read 17 = .ok (.ireturn, 1) := by decide +kernel
theorem dX9_read_18 : decode cX9_read 18 = .ok (.aload_n 0, 1) := by decide +kernel
theorem dX9_read_19 : decode cX9_read 19 = .ok (.iload_n 1, 1) := by decide +kernel
theorem dX9_read_20 : decode cX9_read 20 = .ok (.iload_n 2, 1) := by decide +kernel
theorem dX9_read_21 : decode cX9_read 21 = .ok (.invokevirtual 308, 3) := by decide +kernel
theorem dX9_read_24 : decode cX9_read 24 = .ok (.istore_n 3, 1) := by decide +kernel
theorem dX9_read_25 : decode cX9_read 25 = .ok (.aload_n 0, 1) := by decide +kernel
theorem dX9_read_26 : decode cX9_read 26 = .ok (.aload_n 0, 1) := by decide +kernel
theorem dX9_read_27 : decode cX9_read 27 = .ok (.getfield 285, 3) := by decide +kernel
theorem dX9_read_30 : decode cX9_read 30 = .ok (.putfield 236, 3) := by decide +kernel
theorem dX9_read_33 : decode cX9_read 33 = .ok (.aload_n 0, 1) := by decide +kernel
theorem dX9_read_34 : decode cX9_read 34 = .ok (.aload_n 0, 1) := by decide +kernel
theorem dX9_read_35 : decode cX9_read 35 = .ok (.getfield 288, 3) := by decide +kernel
theorem dX9_read_38 : decode cX9_read 38 = .ok (.putfield 42, 3) := by decide +kernel
theorem dX9_read_4 : decode cX9_read 4 = .ok (.ifCond .eq 11, 3) := by decide +kernel
theorem dX9_read_41 : decode cX9_read 41 = .ok (.iload_n 3, 1) := by decide +kernel
theorem dX9_read_42 : decode cX9_read 42 = .ok (.ifCond .ne 5, 3) := by decide +kernel
theorem dX9_read_45 : decode cX9_read 45 = .ok (.iconst (-1), 1) := by decide +kernel
theorem dX9_read_46 : decode cX9_read 46 = .ok (.ireturn, 1) := by decide +kernel
theorem dX9_read_47 : decode cX9_read 47 = .ok (.iconst 0, 1) := by decide +kernel
theorem dX9_read_48 : decode cX9_read 48 = .ok (.istore 4, 2) := by decide +kernel
theorem dX9_read_50 : decode cX9_read 50 = .ok (.iconst 0, 1) := by decide +kernel
theorem dX9_read_51 : decode cX9_read 51 = .ok (.istore 5, 2) := by decide +kernel
theorem dX9_read_53 : decode cX9_read 53 = .ok (.iload 5, 2) := by decide +kernel
theorem dX9_read_55 : decode cX9_read 55 = .ok (.aload_n 0, 1) := by decide +kernel
theorem dX9_read_56 : decode cX9_read 56 = .ok (.getfield 291, 3) := by decide +kernel
theorem dX9_read_59 : decode cX9_read 59 = .ok (.if_icmp .ge 27, 3) := by decide +kernel
theorem dX9_read_62 : decode cX9_read 62 = .ok (.aload_n 0, 1) := by decide +kernel
theorem dX9_read_63 : decode cX9_read 63 = .ok (.iload_n 2, 1) := by decide +kernel
theorem dX9_read_64 : decode cX9_read 64 = .ok (.aload_n 0, 1) := by decide +kernel
theorem dX9_read_65 : decode cX9_read 65 = .ok (.getfield 84, 3) := by decide +kernel
theorem dX9_read_68 : decode cX9_read 68 = .ok (.iload 5, 2) := by decide +kernel
theorem dX9_read_7 : decode cX9_read 7 = .ok (.aload_n 0, 1) := by decide +kernel
theorem dX9_read_70 : decode cX9_read 70 = .ok (.iaload, 1) := by decide +kernel
theorem dX9_read_71 : decode cX9_read 71 = .ok (.invokevirtual 246, 3) := by decide +kernel
theorem dX9_read_74 : decode cX9_read 74 = .ok (.ifCond .eq 6, 3) := by decide +kernel
theorem dX9_read_77 : decode cX9_read 77 = .ok (.iinc 4 1, 3) := by decide +kernel
theorem dX9_read_8 : decode cX9_read 8 = .ok (.iload_n 2, 1) := by decide +kernel
theorem dX9_read_80 : decode cX9_read 80 = .ok (.iinc 5 1, 3) := by decide +kernel
theorem dX9_read_83 : decode cX9_read 83 = .ok (.goto (-30), 3) := by decide +kernel
theorem dX9_read_86 : decode cX9_read 86 = .ok (.iload 4, 2) := by decide +kernel
theorem dX9_read_88 : decode cX9_read 88 = .ok (.ireturn, 1) := by decide +kernel
theorem dX9_read_9 : decode cX9_read 9 = .ok (.invokevirtual 239, 3) := by decide +kernel
theorem dX9_reads_0 : decode cX9_reads 0 = .ok (.aload_n 0, 1) := by decide +kernel
theorem dX9_reads_1 : decode cX9_reads 1 = .ok (.iconst 0, 1) := by decide +kernel
theorem dX9_reads_10 : decode cX9_reads 10 = .ok (.aload_n 0, 1) := by decide +kernel
theorem dX9_reads_100 : decode cX9_reads 100 = .ok (.putfield 285, 3) := by decide +kernel
theorem dX9_reads_103 : decode cX9_reads 103 = .ok (.aload_n 0, 1) := by decide +kernel
theorem dX9_reads_104 : decode cX9_reads 104 = .ok (.iload 4, 2) := by decide +kernel
theorem dX9_reads_106 : decode cX9_reads 106 = .ok (.putfield 288, 3) := by decide +kernel
theorem dX9_reads_109 : decode cX9_reads 109 = .ok (.iconst 0, 1) := by decide +kernel
theorem dX9_reads_11 : decode cX9_reads 11 = .ok (.iconst 0, 1) := by decide +kernel
theorem dX9_reads_110 : decode cX9_reads 110 = .ok (.ireturn, 1) := by decide +kernel
theorem dX9_reads_111 : decode cX9_reads 111 = .ok (.iload_n 3, 1) := by decide +kernel
theorem dX9_reads_112 : decode cX9_reads 112 = .ok (.ifCond .ne 76, 3) := by decide +kernel
theorem dX9_reads_115 : decode cX9_reads 115 = .ok (.aload_n 0, 1) := by decide +kernel
theorem dX9_reads_116 : decode cX9_reads 116 = .ok (.getfield 84, 3) := by decide +kernel
theorem dX9_reads_119 : decode cX9_reads 119 = .ok (.aload_n 0, 1) := by decide +kernel
theorem dX9_reads_12 : decode cX9_reads 12 = .ok (.putfield 291, 3) := by decide +kernel
theorem dX9_reads_120 : decode cX9_reads 120 = .ok (.getfield 291, 3) := by decide +kernel
theorem dX9_reads_123 : decode cX9_reads 123 = .ok (.aload_n 0, 1) := by decide +kernel
theorem dX9_reads_124 : decode cX9_reads 124 = .ok (.getfield 263, 3) := by decide +kernel
theorem dX9_reads_127 : decode cX9_reads 127 = .ok (.iastore, 1) := by decide +kernel
theorem dX9_reads_128 : decode cX9_reads 128 = .ok (.aload_n 0, 1) := by decide +kernel
theorem dX9_reads_129 : decode cX9_reads 129 = .ok (.getfield 87, 3) := by decide +kernel
theorem dX9_reads_132 : decode cX9_reads 132 = .ok (.aload_n 0, 1) := by decide +kernel
theorem dX9_reads_133 : decode cX9_reads 133 = .ok (.getfield 291, 3) := by decide +kernel
theorem dX9_reads_136 : decode cX9_reads 136 = .ok (.iload 4, 2) := by decide +kernel
theorem dX9_reads_138 : decode cX9_reads 138 = .ok (.iastore, 1) := by decide +kernel
theorem dX9_reads_139 : decode cX9_reads 139 = .ok (.aload_n 0, 1) := by decide +kernel
theorem dX9_reads_140 : decode cX9_reads 140 = .ok (.getfield 90, 3) := by decide +kernel
theorem dX9_reads_143 : decode cX9_reads 143 = .ok (.aload_n 0, 1) := by decide +kernel
theorem dX9_reads_144 : decode cX9_reads 144 = .ok (.getfield 291, 3) := by decide +kernel
theorem dX9_reads_147 : decode cX9_reads 147 = .ok (.aload_n 0, 1) := by decide +kernel
theorem dX9_reads_148 : decode cX9_reads 148 = .ok (.getfield 275, 3) := by decide +kernel
theorem dX9_reads_15 : decode cX9_reads 15 = .ok (.iconst 0, 1) := by decide +kernel
theorem dX9_reads_151 : decode cX9_reads 151 = .ok (.iastore, 1) := by decide +kernel
theorem dX9_reads_152 : decode cX9_reads 152 = .ok (.aload_n 0, 1) := by decide +kernel
theorem dX9_reads_153 : decode cX9_reads 153 = .ok (.getfield 93, 3) := by decide +kernel
theorem dX9_reads_156 : decode cX9_reads 156 = .ok (.aload_n 0, 1) := by decide +kernel
theorem dX9_reads_157 : decode cX9_reads 157 = .ok (.getfield 291, 3) := by decide +kernel
theorem dX9_reads_16 : decode cX9_reads 16 = .ok (.istore_n 3, 1) := by decide +kernel
theorem dX9_reads_160 : decode cX9_reads 160 = .ok (.aload_n 0, 1) := by decide +kernel
theorem dX9_reads_161 : decode cX9_reads 161 = .ok (.getfield 278, 3) := by decide +kernel
theorem dX9_reads_164 : decode cX9_reads 164 = .ok (.iastore, 1) := by decide +kernel
theorem dX9_reads_165 : decode cX9_reads 165 = .ok (.aload_n 0, 1) := by decide +kernel
theorem dX9_reads_166 : decode cX9_reads 166 = .ok (.getfield 96, 3) := by decide +kernel
theorem dX9_reads_169 : decode cX9_reads 169 = .ok (.aload_n 0, 1) := by decide +kernel
theorem dX9_reads_17 : decode cX9_reads 17 = .ok (.aload_n 0, 1) := by decide +kernel
theorem dX9_reads_170 : decode cX9_reads 170 = .ok (.getfield 291, 3) := by decide +kernel
theorem dX9_reads_173 : decode cX9_reads 173 = .ok (.aload_n 0, 1) := by decide +kernel
theorem dX9_reads_174 : decode cX9_reads 174 = .ok (.getfield 273, 3) := by decide +kernel
theorem dX9_reads_177 : decode cX9_reads 177 = .ok (.lastore, 1) := by decide +kernel
theorem dX9_reads_178 : decode cX9_reads 178 = .ok (.aload_n 0, 1) := by decide +kernel
theorem dX9_reads_179 : decode cX9_reads 179 = .ok (.dup, 1) := by decide +kernel
theorem dX9_reads_18 : decode cX9_reads 18 = .ok (.iconst 0, 1) := by decide +kernel
theorem dX9_reads_180 : decode cX9_reads 180 = .ok (.getfield 291, 3) := by decide +kernel
theorem dX9_reads_183 : decode cX9_reads 183 = .ok (.iconst 1, 1) := by decide +kernel
theorem dX9_reads_184 : decode cX9_reads 184 = .ok (.iadd, 1) := by decide +kernel
theorem dX9_reads_185 : decode cX9_reads 185 = .ok (.putfield 291, 3) := by decide +kernel
theorem dX9_reads_188 : decode cX9_reads 188 = .ok (.aload_n 0, 1) := by decide +kernel
theorem dX9_reads_189 : decode cX9_reads 189 = .ok (.getfield 102, 3) := by decide +kernel
theorem dX9_reads_19 : decode cX9_reads 19 = .ok (.iload_n 2, 1) := by decide +kernel
theorem dX9_reads_192 : decode cX9_reads 192 = .ok (.iload_n 3, 1) := by decide +kernel
theorem dX9_reads_193 : decode cX9_reads 193 = .ok (.aload_n 0, 1) := by decide +kernel
theorem dX9_reads_194 : decode cX9_reads 194 = .ok (.getfield 278, 3) := by decide +kernel
theorem dX9_reads_197 : decode cX9_reads 197 = .ok (.iastore, 1) := by decide +kernel
theorem dX9_reads_198 : decode cX9_reads 198 = .ok (.aload_n 0, 1) := by decide +kernel
theorem dX9_reads_199 : decode cX9_reads 199 = .ok (.getfield 108, 3) := by decide +kernel
theorem dX9_reads_2 : decode cX9_reads 2 = .ok (.putfield 285, 3) := by decide +kernel
theorem dX9_reads_20 : decode cX9_reads 20 = .ok (.iconst 0, 1) := by decide +kernel
theorem dX9_reads_202 : decode cX9_reads 202 = .ok (.iload_n 3, 1) := by decide +kernel
theorem dX9_reads_203 : decode cX9_reads 203 = .ok (.aload_n 0, 1) := by decide +kernel
theorem dX9_reads_204 : decode cX9_reads 204 = .ok (.getfield 263, 3) := by decide +kernel
theorem dX9_reads_207 : decode cX9_reads 207 = .ok (.iastore, 1) := by decide +kernel
theorem dX9_reads_208 : decode cX9_reads 208 = .ok (.aload_n 0, 1) := by decide +kernel
theorem dX9_reads_209 : decode cX9_reads 209 = .ok (.iload 5, 2) := by decide +kernel
theorem dX9_reads_21 : decode cX9_reads 21 = .ok (.iload_n 1, 1) := by decide +kernel
theorem dX9_reads_211 : decode cX9_reads 211 = .ok (.aload_n 0, 1) := by decide +kernel
theorem dX9_reads_212 : decode cX9_reads 212 = .ok (.getfield 263, 3) := by decide +kernel
theorem dX9_reads_215 : decode cX9_reads 215 = .ok (.invokevirtual 246, 3) := by decide +kernel
theorem dX9_reads_218 : decode cX9_reads 218 = .ok (.ifCond .ne 6, 3) := by decide +kernel
theorem dX9_reads_22 : decode cX9_reads 22 = .ok (.invokevirtual 294, 3) := by decide +kernel
theorem dX9_reads_221 : decode cX9_reads 221 = .ok (.goto (-196), 3) := by decide +kernel
theorem dX9_reads_224 : decode cX9_reads 224 = .ok (.bipush 31, 2) := by decide +kernel
theorem dX9_reads_226 : decode cX9_reads 226 = .ok (.iload 5, 2) := by decide +kernel
theorem dX9_reads_228 : decode cX9_reads 228 = .ok (.imul, 1) := by decide +kernel
theorem dX9_reads_229 : decode cX9_reads 229 = .ok (.aload_n 0, 1) := by decide +kernel
theorem dX9_reads_230 : decode cX9_reads 230 = .ok (.getfield 263, 3) := by decide +kernel
theorem dX9_reads_233 : decode cX9_reads 233 = .ok (.iadd, 1) := by decide +kernel
theorem dX9_reads_234 : decode cX9_reads 234 = .ok (.istore 6, 2) := by decide +kernel
theorem dX9_reads_236 : decode cX9_reads 236 = .ok (.aload_n 0, 1) := by decide +kernel
theorem dX9_reads_237 : decode cX9_reads 237 = .ok (.getfield 17, 3) := by decide +kernel
theorem dX9_reads_240 : decode cX9_reads 240 = .ok (.iload 6, 2) := by decide +kernel
theorem dX9_reads_242 : decode cX9_reads 242 = .ok (.iaload, 1) := by decide +kernel
theorem dX9_reads_243 : decode cX9_reads 243 = .ok (.ifCond .le 21, 3) := by decide +kernel
theorem dX9_reads_246 : decode cX9_reads 246 = .ok (.aload_n 0, 1) := by decide +kernel
theorem dX9_reads_247 : decode cX9_reads 247 = .ok (.getfield 111, 3) := by decide +kernel
theorem dX9_reads_25 : decode cX9_reads 25 = .ok (.iload_n 3, 1) := by decide +kernel
theorem dX9_reads_250 : decode cX9_reads 250 = .ok (.iload_n 3, 1) := by decide +kernel
theorem dX9_reads_251 : decode cX9_reads 251 = .ok (.dup2, 1) := by decide +kernel
theorem dX9_reads_252 : decode cX9_reads 252 = .ok (.iaload, 1) := by decide +kernel
theorem dX9_reads_253 : decode cX9_reads 253 = .ok (.iconst 1, 1) := by decide +kernel
theorem dX9_reads_254 : decode cX9_reads 254 = .ok (.aload_n 0, 1) := by decide +kernel
theorem dX9_reads_255 : decode cX9_reads 255 = .ok (.getfield 17, 3) := by decide +kernel
theorem dX9_reads_258 : decode cX9_reads 258 = .ok (.iload 6, 2) := by decide +kernel
theorem dX9_reads_26 : decode cX9_reads 26 = .ok (.ifCond .lt 279, 3) := by decide +kernel
theorem dX9_reads_260 : decode cX9_reads 260 = .ok (.iaload, 1) := by decide +kernel
theorem dX9_reads_261 : decode cX9_reads 261 = .ok (.ishl, 1) := by decide +kernel
theorem dX9_reads_262 : decode cX9_reads 262 = .ok (.ior, 1) := by decide +kernel
theorem dX9_reads_263 : decode cX9_reads 263 = .ok (.iastore, 1) := by decide +kernel
theorem dX9_reads_264 : decode cX9_reads 264 = .ok (.aload_n 0, 1) := by decide +kernel
theorem dX9_reads_265 : decode cX9_reads 265 = .ok (.getfield 13, 3) := by decide +kernel
theorem dX9_reads_268 : decode cX9_reads 268 = .ok (.iload 6, 2) := by decide +kernel
theorem dX9_reads_270 : decode cX9_reads 270 = .ok (.iaload, 1) := by decide +kernel
theorem dX9_reads_271 : decode cX9_reads 271 = .ok (.bipush 6, 2) := by decide +kernel
theorem dX9_reads_273 : decode cX9_reads 273 = .ok (.if_icmp .eq 6, 3) := by decide +kernel
theorem dX9_reads_276 : decode cX9_reads 276 = .ok (.goto (-251), 3) := by decide +kernel
theorem dX9_reads_279 : decode cX9_reads 279 = .ok (.iinc 3 1, 3) := by decide +kernel
theorem dX9_reads_282 : decode cX9_reads 282 = .ok (.aload_n 0, 1) := by decide +kernel
theorem dX9_reads_283 : decode cX9_reads 283 = .ok (.iload_n 3, 1) := by decide +kernel
theorem dX9_reads_284 : decode cX9_reads 284 = .ok (.aload_n 0, 1) := by decide +kernel
theorem dX9_reads_285 : decode cX9_reads 285 = .ok (.getfield 20, 3) := by decide +kernel
theorem dX9_reads_288 : decode cX9_reads 288 = .ok (.iload 6, 2) := by decide +kernel
theorem dX9_reads_29 : decode cX9_reads 29 = .ok (.aload_n 0, 1) := by decide +kernel
theorem dX9_reads_290 : decode cX9_reads 290 = .ok (.iaload, 1) := by decide +kernel
theorem dX9_reads_291 : decode cX9_reads 291 = .ok (.aload_n 0, 1) := by decide +kernel
theorem dX9_reads_292 : decode cX9_reads 292 = .ok (.getfield 275, 3) := by decide +kernel
theorem dX9_reads_295 : decode cX9_reads 295 = .ok (.aload_n 0, 1) := by decide +kernel
theorem dX9_reads_296 : decode cX9_reads 296 = .ok (.getfield 278, 3) := by decide +kernel
theorem dX9_reads_299 : decode cX9_reads 299 = .ok (.invokevirtual 294, 3) := by decide +kernel
theorem dX9_reads_30 : decode cX9_reads 30 = .ok (.getfield 102, 3) := by decide +kernel
theorem dX9_reads_302 : decode cX9_reads 302 = .ok (.goto (-277), 3) := by decide +kernel
theorem dX9_reads_305 : decode cX9_reads 305 = .ok (.iconst 1, 1) := by decide +kernel
theorem dX9_reads_306 : decode cX9_reads 306 = .ok (.ireturn, 1) := by decide +kernel
theorem dX9_reads_33 : decode cX9_reads 33 = .ok (.iload_n 3, 1) := by decide +kernel
theorem dX9_reads_34 : decode cX9_reads 34 = .ok (.iaload, 1) := by decide +kernel
theorem dX9_reads_35 : decode cX9_reads 35 = .ok (.istore 4, 2) := by decide +kernel
theorem dX9_reads_37 : decode cX9_reads 37 = .ok (.iload 4, 2) := by decide +kernel
theorem dX9_reads_39 : decode cX9_reads 39 = .ok (.aload_n 0, 1) := by decide +kernel
theorem dX9_reads_40 : decode cX9_reads 40 = .ok (.getfield 105, 3) := by decide +kernel
theorem dX9_reads_43 : decode cX9_reads 43 = .ok (.iload_n 3, 1) := by decide +kernel
theorem dX9_reads_44 : decode cX9_reads 44 = .ok (.iaload, 1) := by decide +kernel
theorem dX9_reads_45 : decode cX9_reads 45 = .ok (.if_icmp .ne 9, 3) := by decide +kernel
theorem dX9_reads_48 : decode cX9_reads 48 = .ok (.iinc 3 (-1), 3) := by decide +kernel
theorem dX9_reads_5 : decode cX9_reads 5 = .ok (.aload_n 0, 1) := by decide +kernel
theorem dX9_reads_51 : decode cX9_reads 51 = .ok (.goto (-26), 3) := by decide +kernel
theorem dX9_reads_54 : decode cX9_reads 54 = .ok (.aload_n 0, 1) := by decide +kernel
theorem dX9_reads_55 : decode cX9_reads 55 = .ok (.getfield 99, 3) := by decide +kernel
theorem dX9_reads_58 : decode cX9_reads 58 = .ok (.iload_n 3, 1) := by decide +kernel
theorem dX9_reads_59 : decode cX9_reads 59 = .ok (.iaload, 1) := by decide +kernel
theorem dX9_reads_6 : decode cX9_reads 6 = .ok (.iconst (-1), 1) := by decide +kernel
theorem dX9_reads_60 : decode cX9_reads 60 = .ok (.istore 5, 2) := by decide +kernel
theorem dX9_reads_62 : decode cX9_reads 62 = .ok (.aload_n 0, 1) := by decide +kernel
theorem dX9_reads_63 : decode cX9_reads 63 = .ok (.iload 4, 2) := by decide +kernel
theorem dX9_reads_65 : decode cX9_reads 65 = .ok (.aload_n 0, 1) := by decide +kernel
theorem dX9_reads_66 : decode cX9_reads 66 = .ok (.getfield 105, 3) := by decide +kernel
theorem dX9_reads_69 : decode cX9_reads 69 = .ok (.iload_n 3, 1) := by decide +kernel
theorem dX9_reads_7 : decode cX9_reads 7 = .ok (.putfield 288, 3) := by decide +kernel
theorem dX9_reads_70 : decode cX9_reads 70 = .ok (.iaload, 1) := by decide +kernel
theorem dX9_reads_71 : decode cX9_reads 71 = .ok (.iload 5, 2) := by decide +kernel
theorem dX9_reads_73 : decode cX9_reads 73 = .ok (.aload_n 0, 1) := by decide +kernel
theorem dX9_reads_74 : decode cX9_reads 74 = .ok (.getfield 108, 3) := by decide +kernel
theorem dX9_reads_77 : decode cX9_reads 77 = .ok (.iload_n 3, 1) := by decide +kernel
theorem dX9_reads_78 : decode cX9_reads 78 = .ok (.iaload, 1) := by decide +kernel
theorem dX9_reads_79 : decode cX9_reads 79 = .ok (.aload_n 0, 1) := by decide +kernel
theorem dX9_reads_80 : decode cX9_reads 80 = .ok (.getfield 111, 3) := by decide +kernel
theorem dX9_reads_83 : decode cX9_reads 83 = .ok (.iload_n 3, 1) := by decide +kernel
theorem dX9_reads_84 : decode cX9_reads 84 = .ok (.iaload, 1) := by decide +kernel
theorem dX9_reads_85 : decode cX9_reads 85 = .ok (.invokevirtual 298, 3) := by decide +kernel
theorem dX9_reads_88 : decode cX9_reads 88 = .ok (.aload_n 0, 1) := by decide +kernel
theorem dX9_reads_89 : decode cX9_reads 89 = .ok (.getfield 260, 3) := by decide +kernel
theorem dX9_reads_92 : decode cX9_reads 92 = .ok (.ifCond .eq 19, 3) := by decide +kernel
theorem dX9_reads_95 : decode cX9_reads 95 = .ok (.aload_n 0, 1) := by decide +kernel
theorem dX9_reads_96 : decode cX9_reads 96 = .ok (.aload_n 0, 1) := by decide +kernel
theorem dX9_reads_97 : decode cX9_reads 97 = .ok (.getfield 260, 3) := by decide +kernel
noncomputable def x9_isText_9_12  : Nat → Int32 → Int32 → RS → Option (Int32 × RS)
  | 0 => fun _ _ _ => none
  | n + 1 => fun l2 l3 st => pif (l2 ≤ l3) (some ((1 : Int32), st)) (gd (vp_in l3 400) (pif ((gF st 9 l3.toNatClampNeg) < 32) (some ((0 : Int32), st)) (gd (vp_in l3 400) (pif ((gF st 9 l3.toNatClampNeg) ≤ 126) (nam (l3 + 1) (fun v_6 => (x9_isText_9_12 n) l2 v_6 st)) (some ((0 : Int32), st))))))
theorem x9_isText_9_12_z  (l2 : Int32) (l3 : Int32) (st : RS) : x9_isText_9_12  0 l2 l3 st = none := rfl
theorem x9_isText_9_12_s  (n : Nat) (l2 : Int32) (l3 : Int32) (st : RS) : x9_isText_9_12  (n + 1) l2 l3 st = pif (l2 ≤ l3) (some ((1 : Int32), st)) (gd (vp_in l3 400) (pif ((gF st 9 l3.toNatClampNeg) < 32) (some ((0 : Int32), st)) (gd (vp_in l3 400) (pif ((gF st 9 l3.toNatClampNeg) ≤ 126) (nam (l3 + 1) (fun v_6 => (x9_isText_9_12 n) l2 v_6 st)) (some ((0 : Int32), st)))))) := rfl
noncomputable def x9_isText_9 (p1 : Int32) (p2 : Int32) (st : RS) : Option (Int32 × RS) := pif ((p2 - p1) ≤ 12) (x9_isText_9_12  fuel p2 p1 st) (some ((0 : Int32), st))
def wq_X9_isText_9 : List Cond := .code yX9_isText cX9_isText 4 (some .boolean) :: ([])
set_option maxHeartbeats 4000000 in
set_option maxRecDepth 100000 in
theorem c_X9_isText_9 (l : Launch) (dC : Nat → ClassId) (dI : Nat → Nat → Nat) (h0 : Nat) (ar : Nat → Nat) (ca : Nat → ClassId) (p1 : Int32) (p2 : Int32) (st st' : RS) (r : Int32) (hf : x9_isText_9 p1 p2 st = some (r, st')) (sz : Nat) : Met l yX9_isText wq_X9_isText_9 ({ frames := 0, cells := 0, slots := 0, locals := 0 }) (va_Pc [.ref (ar 9), .int p1, .int p2] (Pr (dC, dI) (rT ca) [] (RW h0 ar ca st) sz)) (va_Qi (fun r' (_ : Unit) => r' = r) (Bq (dC, dI) (fun _ => RW h0 ar ca st') (fun _ => []) (va_A (RW h0 ar ca st) sz)) (va_A (RW h0 ar ca st) sz)) 0 0 (va_A (RW h0 ar ca st) sz) := by
  refine Met.ofW (cc := cX9_isText) (maxL := 4) (ret := (some .boolean)) (by decide) rfl ?_
  intro p e s m args below meth c s₁ B hml hv
  obtain ⟨rfl, hsz, hP, hK, hD0, hN, hZ, hR⟩ := hv
  have hx := B.exec
  have hb := B.bytes
  have hr := B.returns
  have hts := atoms_spec (ws := wq_X9_isText_9) B.pre
  have hown : s.vm.findClass RX9 = some m.cls := findClass_of_methodNamed B.named
  subst hsz
  have hp : Rp (dC, dI) h0 ar ca (va_A (RW h0 ar ca st) s.heap.size) s.heap st s.heap [] := ⟨hP, hD0.self, va_S.rf⟩
  generalize hAe : va_A (RW h0 ar ca st) s.heap.size = A at hp hZ ⊢
  have hA : ∀ q : Nat, s.heap.size ≤ q → A q := fun q h => by rw [← hAe]; exact Or.inr h
  have hl := lv_entry ([.ref (ar 9), .int p1, .int p2]) (n := 4) (Nat.le_of_ble_eq_true rfl)
  rw [lg_entry_eq]
  generalize (lg_sl ([.ref (ar 9), .int p1, .int p2]) ++ List.replicate (4 - (lg_sl ([.ref (ar 9), .int p1, .int p2])).length) Slot.unset).toArray = ls at hl ⊢
  have hl : lv_has ls 4 [(0, .ref (ar 9)), (1, .int p1), (2, .int p2)] := hl
  refine W_lp (fun n12 (u : Int32 × Int32 × RS) H locs ls => match u with | (l2, l3, st) => x9_isText_9_12 n12 l2 l3 st = some (r, st') ∧ Rp (dC, dI) h0 ar ca A s.heap st H locs ∧ lv_has ls 4 [(0, .ref (ar 9)), (2, .int l2), (3, .int l3)]) (fun (u : Int32 × Int32 × RS) ls => match u with | (l2, l3, st) => F0 m 12 ls []) ?_ ?_ (fun J12 => ?_)
  · intro u H locs ls hu
    obtain ⟨l2, l3, st⟩ := u
    obtain ⟨hf, hp, hl⟩ := hu
    rw [x9_isText_9_12_z] at hf
    cases hf
  · intro n12 ih12 u H locs ls hu
    obtain ⟨l2, l3, st⟩ := u
    obtain ⟨hf, hp, hl⟩ := hu
    show W p l e _ s m _ below meth c _ _ _ _ _ (F0 m 12 ls [])
    rw [x9_isText_9_12_s] at hf
    refine lv_iload_n hx hb dX9_isText_12 rfl (lv_at hl 2 rfl) ?_
    refine lv_iload_n hx hb dX9_isText_13 rfl (lv_at hl 1 rfl) ?_
    refine lv_icmp_ge (tgt := 41) hx hb dX9_isText_14 (by decide) (fun c_1 => ?_) (fun c_1 => ?_)
    · have hf := pif_t c_1 hf
      refine lv_iconst (v := 1) hx hb dX9_isText_41 (by decide) ?_
      obtain ⟨e1, e2⟩ := pr_some hf
      exact W.zret (v := 1) hx hb hr rfl (fun t ht hW => ⟨⟨1, (), rfl, e1, Rp.end e2 hp hK ht hW⟩, hp.2.2.F ht⟩) hp.2.2.2.2 dX9_isText_42
    · have hf := pif_f c_1 hf
      refine lv_aload_n hx hb dX9_isText_17 rfl (lv_at hl 0 rfl) ?_
      refine lv_iload_n hx hb dX9_isText_18 rfl (lv_at hl 2 rfl) ?_
      obtain ⟨g_2, hf⟩ := gd_some hf
      refine r_ai (n := 400) hx hb hK hp 9 9 rfl rfl rfl g_2 dX9_isText_19 ?_
      refine lv_bipush (v := 32) hx hb dX9_isText_20 (by decide) ?_
      refine lv_icmp_lt (tgt := 33) hx hb dX9_isText_22 (by decide) (fun c_3 => ?_) (fun c_3 => ?_)
      · have hf := pif_t c_3 hf
        refine lv_iconst (v := 0) hx hb dX9_isText_33 (by decide) ?_
        obtain ⟨e1, e2⟩ := pr_some hf
        exact W.zret (v := 0) hx hb hr rfl (fun t ht hW => ⟨⟨0, (), rfl, e1, Rp.end e2 hp hK ht hW⟩, hp.2.2.F ht⟩) hp.2.2.2.2 dX9_isText_34
      · have hf := pif_f c_3 hf
        refine lv_aload_n hx hb dX9_isText_25 rfl (lv_at hl 0 rfl) ?_
        refine lv_iload_n hx hb dX9_isText_26 rfl (lv_at hl 2 rfl) ?_
        obtain ⟨g_4, hf⟩ := gd_some hf
        refine r_ai (n := 400) hx hb hK hp 9 9 rfl rfl rfl g_4 dX9_isText_27 ?_
        refine lv_bipush (v := 126) hx hb dX9_isText_28 (by decide) ?_
        refine lv_icmp_le (tgt := 35) hx hb dX9_isText_30 (by decide) (fun c_5 => ?_) (fun c_5 => ?_)
        · have hf := pif_t c_5 hf
          obtain ⟨v_6, ev_6, hf⟩ := nam_some hf
          refine lv_iinc (v := v_6) (lv' := [(3, .int v_6), (0, .ref (ar 9)), (2, .int l2)]) hx hb dX9_isText_35 hl (k := 2) rfl ev_6.symm (by decide) rfl (fun ls hl => ?_)
          refine lv_goto (tgt := 12) hx hb dX9_isText_38 (by decide) ?_
          exact ih12 (l2, v_6, st) _ _ _ ⟨hf, hp, (lv_sub hl [1, 2, 0] rfl)⟩
        · have hf := pif_f c_5 hf
          refine lv_iconst (v := 0) hx hb dX9_isText_33 (by decide) ?_
          obtain ⟨e1, e2⟩ := pr_some hf
          exact W.zret (v := 0) hx hb hr rfl (fun t ht hW => ⟨⟨0, (), rfl, e1, Rp.end e2 hp hK ht hW⟩, hp.2.2.F ht⟩) hp.2.2.2.2 dX9_isText_34
  unfold x9_isText_9 at hf
  refine lv_iload_n hx hb dX9_isText_0 rfl (lv_at hl 2 rfl) ?_
  refine lv_iload_n hx hb dX9_isText_1 rfl (lv_at hl 1 rfl) ?_
  refine lv_isub hx hb dX9_isText_2 ?_
  refine lv_bipush (v := 12) hx hb dX9_isText_3 (by decide) ?_
  refine lv_icmp_le (tgt := 10) hx hb dX9_isText_5 (by decide) (fun c_7 => ?_) (fun c_7 => ?_)
  · have hf := pif_t c_7 hf
    refine lv_iload_n hx hb dX9_isText_10 rfl (lv_at hl 1 rfl) ?_
    refine lv_istore_n (lv' := [(3, .int p1), (0, .ref (ar 9)), (1, .int p1), (2, .int p2)]) hx hb dX9_isText_11 rfl hl (by decide) rfl (fun ls hl => ?_)
    exact J12 fuel (p2, p1, st) _ _ _ ⟨hf, hp, (lv_sub hl [1, 3, 0] rfl)⟩
  · have hf := pif_f c_7 hf
    refine lv_iconst (v := 0) hx hb dX9_isText_8 (by decide) ?_
    obtain ⟨e1, e2⟩ := pr_some hf
    exact W.zret (v := 0) hx hb hr rfl (fun t ht hW => ⟨⟨0, (), rfl, e1, Rp.end e2 hp hK ht hW⟩, hp.2.2.F ht⟩) hp.2.2.2.2 dX9_isText_9
noncomputable def x9_isText_30_12  : Nat → Int32 → Int32 → RS → Option (Int32 × RS)
  | 0 => fun _ _ _ => none
  | n + 1 => fun l2 l3 st => pif (l2 ≤ l3) (some ((1 : Int32), st)) (gd (vp_in l3 160) (pif ((gF st 30 l3.toNatClampNeg) < 32) (some ((0 : Int32), st)) (gd (vp_in l3 160) (pif ((gF st 30 l3.toNatClampNeg) ≤ 126) (nam (l3 + 1) (fun v_6 => (x9_isText_30_12 n) l2 v_6 st)) (some ((0 : Int32), st))))))
theorem x9_isText_30_12_z  (l2 : Int32) (l3 : Int32) (st : RS) : x9_isText_30_12  0 l2 l3 st = none := rfl
theorem x9_isText_30_12_s  (n : Nat) (l2 : Int32) (l3 : Int32) (st : RS) : x9_isText_30_12  (n + 1) l2 l3 st = pif (l2 ≤ l3) (some ((1 : Int32), st)) (gd (vp_in l3 160) (pif ((gF st 30 l3.toNatClampNeg) < 32) (some ((0 : Int32), st)) (gd (vp_in l3 160) (pif ((gF st 30 l3.toNatClampNeg) ≤ 126) (nam (l3 + 1) (fun v_6 => (x9_isText_30_12 n) l2 v_6 st)) (some ((0 : Int32), st)))))) := rfl
noncomputable def x9_isText_30 (p1 : Int32) (p2 : Int32) (st : RS) : Option (Int32 × RS) := pif ((p2 - p1) ≤ 12) (x9_isText_30_12  fuel p2 p1 st) (some ((0 : Int32), st))
def wq_X9_isText_30 : List Cond := .code yX9_isText cX9_isText 4 (some .boolean) :: ([])
set_option maxHeartbeats 4000000 in
set_option maxRecDepth 100000 in
theorem c_X9_isText_30 (l : Launch) (dC : Nat → ClassId) (dI : Nat → Nat → Nat) (h0 : Nat) (ar : Nat → Nat) (ca : Nat → ClassId) (p1 : Int32) (p2 : Int32) (st st' : RS) (r : Int32) (hf : x9_isText_30 p1 p2 st = some (r, st')) (sz : Nat) : Met l yX9_isText wq_X9_isText_30 ({ frames := 0, cells := 0, slots := 0, locals := 0 }) (va_Pc [.ref (ar 30), .int p1, .int p2] (Pr (dC, dI) (rT ca) [] (RW h0 ar ca st) sz)) (va_Qi (fun r' (_ : Unit) => r' = r) (Bq (dC, dI) (fun _ => RW h0 ar ca st') (fun _ => []) (va_A (RW h0 ar ca st) sz)) (va_A (RW h0 ar ca st) sz)) 0 0 (va_A (RW h0 ar ca st) sz) := by
  refine Met.ofW (cc := cX9_isText) (maxL := 4) (ret := (some .boolean)) (by decide) rfl ?_
  intro p e s m args below meth c s₁ B hml hv
  obtain ⟨rfl, hsz, hP, hK, hD0, hN, hZ, hR⟩ := hv
  have hx := B.exec
  have hb := B.bytes
  have hr := B.returns
  have hts := atoms_spec (ws := wq_X9_isText_30) B.pre
  have hown : s.vm.findClass RX9 = some m.cls := findClass_of_methodNamed B.named
  subst hsz
  have hp : Rp (dC, dI) h0 ar ca (va_A (RW h0 ar ca st) s.heap.size) s.heap st s.heap [] := ⟨hP, hD0.self, va_S.rf⟩
  generalize hAe : va_A (RW h0 ar ca st) s.heap.size = A at hp hZ ⊢
  have hA : ∀ q : Nat, s.heap.size ≤ q → A q := fun q h => by rw [← hAe]; exact Or.inr h
  have hl := lv_entry ([.ref (ar 30), .int p1, .int p2]) (n := 4) (Nat.le_of_ble_eq_true rfl)
  rw [lg_entry_eq]
  generalize (lg_sl ([.ref (ar 30), .int p1, .int p2]) ++ List.replicate (4 - (lg_sl ([.ref (ar 30), .int p1, .int p2])).length) Slot.unset).toArray = ls at hl ⊢
  have hl : lv_has ls 4 [(0, .ref (ar 30)), (1, .int p1), (2, .int p2)] := hl
  refine W_lp (fun n12 (u : Int32 × Int32 × RS) H locs ls => match u with | (l2, l3, st) => x9_isText_30_12 n12 l2 l3 st = some (r, st') ∧ Rp (dC, dI) h0 ar ca A s.heap st H locs ∧ lv_has ls 4 [(0, .ref (ar 30)), (2, .int l2), (3, .int l3)]) (fun (u : Int32 × Int32 × RS) ls => match u with | (l2, l3, st) => F0 m 12 ls []) ?_ ?_ (fun J12 => ?_)
  · intro u H locs ls hu
    obtain ⟨l2, l3, st⟩ := u
    obtain ⟨hf, hp, hl⟩ := hu
    rw [x9_isText_30_12_z] at hf
    cases hf
  · intro n12 ih12 u H locs ls hu
    obtain ⟨l2, l3, st⟩ := u
    obtain ⟨hf, hp, hl⟩ := hu
    show W p l e _ s m _ below meth c _ _ _ _ _ (F0 m 12 ls [])
    rw [x9_isText_30_12_s] at hf
    refine lv_iload_n hx hb dX9_isText_12 rfl (lv_at hl 2 rfl) ?_
    refine lv_iload_n hx hb dX9_isText_13 rfl (lv_at hl 1 rfl) ?_
    refine lv_icmp_ge (tgt := 41) hx hb dX9_isText_14 (by decide) (fun c_1 => ?_) (fun c_1 => ?_)
    · have hf := pif_t c_1 hf
      refine lv_iconst (v := 1) hx hb dX9_isText_41 (by decide) ?_
      obtain ⟨e1, e2⟩ := pr_some hf
      exact W.zret (v := 1) hx hb hr rfl (fun t ht hW => ⟨⟨1, (), rfl, e1, Rp.end e2 hp hK ht hW⟩, hp.2.2.F ht⟩) hp.2.2.2.2 dX9_isText_42
    · have hf := pif_f c_1 hf
      refine lv_aload_n hx hb dX9_isText_17 rfl (lv_at hl 0 rfl) ?_
      refine lv_iload_n hx hb dX9_isText_18 rfl (lv_at hl 2 rfl) ?_
      obtain ⟨g_2, hf⟩ := gd_some hf
      refine r_ai (n := 160) hx hb hK hp 12 30 rfl rfl rfl g_2 dX9_isText_19 ?_
      refine lv_bipush (v := 32) hx hb dX9_isText_20 (by decide) ?_
      refine lv_icmp_lt (tgt := 33) hx hb dX9_isText_22 (by decide) (fun c_3 => ?_) (fun c_3 => ?_)
      · have hf := pif_t c_3 hf
        refine lv_iconst (v := 0) hx hb dX9_isText_33 (by decide) ?_
        obtain ⟨e1, e2⟩ := pr_some hf
        exact W.zret (v := 0) hx hb hr rfl (fun t ht hW => ⟨⟨0, (), rfl, e1, Rp.end e2 hp hK ht hW⟩, hp.2.2.F ht⟩) hp.2.2.2.2 dX9_isText_34
      · have hf := pif_f c_3 hf
        refine lv_aload_n hx hb dX9_isText_25 rfl (lv_at hl 0 rfl) ?_
        refine lv_iload_n hx hb dX9_isText_26 rfl (lv_at hl 2 rfl) ?_
        obtain ⟨g_4, hf⟩ := gd_some hf
        refine r_ai (n := 160) hx hb hK hp 12 30 rfl rfl rfl g_4 dX9_isText_27 ?_
        refine lv_bipush (v := 126) hx hb dX9_isText_28 (by decide) ?_
        refine lv_icmp_le (tgt := 35) hx hb dX9_isText_30 (by decide) (fun c_5 => ?_) (fun c_5 => ?_)
        · have hf := pif_t c_5 hf
          obtain ⟨v_6, ev_6, hf⟩ := nam_some hf
          refine lv_iinc (v := v_6) (lv' := [(3, .int v_6), (0, .ref (ar 30)), (2, .int l2)]) hx hb dX9_isText_35 hl (k := 2) rfl ev_6.symm (by decide) rfl (fun ls hl => ?_)
          refine lv_goto (tgt := 12) hx hb dX9_isText_38 (by decide) ?_
          exact ih12 (l2, v_6, st) _ _ _ ⟨hf, hp, (lv_sub hl [1, 2, 0] rfl)⟩
        · have hf := pif_f c_5 hf
          refine lv_iconst (v := 0) hx hb dX9_isText_33 (by decide) ?_
          obtain ⟨e1, e2⟩ := pr_some hf
          exact W.zret (v := 0) hx hb hr rfl (fun t ht hW => ⟨⟨0, (), rfl, e1, Rp.end e2 hp hK ht hW⟩, hp.2.2.F ht⟩) hp.2.2.2.2 dX9_isText_34
  unfold x9_isText_30 at hf
  refine lv_iload_n hx hb dX9_isText_0 rfl (lv_at hl 2 rfl) ?_
  refine lv_iload_n hx hb dX9_isText_1 rfl (lv_at hl 1 rfl) ?_
  refine lv_isub hx hb dX9_isText_2 ?_
  refine lv_bipush (v := 12) hx hb dX9_isText_3 (by decide) ?_
  refine lv_icmp_le (tgt := 10) hx hb dX9_isText_5 (by decide) (fun c_7 => ?_) (fun c_7 => ?_)
  · have hf := pif_t c_7 hf
    refine lv_iload_n hx hb dX9_isText_10 rfl (lv_at hl 1 rfl) ?_
    refine lv_istore_n (lv' := [(3, .int p1), (0, .ref (ar 30)), (1, .int p1), (2, .int p2)]) hx hb dX9_isText_11 rfl hl (by decide) rfl (fun ls hl => ?_)
    exact J12 fuel (p2, p1, st) _ _ _ ⟨hf, hp, (lv_sub hl [1, 3, 0] rfl)⟩
  · have hf := pif_f c_7 hf
    refine lv_iconst (v := 0) hx hb dX9_isText_8 (by decide) ?_
    obtain ⟨e1, e2⟩ := pr_some hf
    exact W.zret (v := 0) hx hb hr rfl (fun t ht hW => ⟨⟨0, (), rfl, e1, Rp.end e2 hp hK ht hW⟩, hp.2.2.F ht⟩) hp.2.2.2.2 dX9_isText_9
noncomputable def x9_piece_345  (l4 : Int32) (l5 : Int32) (l11 : Int32) (l13 : Int32) (st : RS) : Option (RS) := pif (l4 < (gI st 33)) (pif (l11 = 0) (some st) (pif (l13 ≤ 0) (some st) (pif (((l5 >>> (l13 &&& 31)) &&& 1) = 1) (nam (sI st 38 7) (fun st_5 => some st_5)) (some st)))) (nam (sI st 38 6) (fun st_6 => some st_6))
noncomputable def x9_piece_337  (st : RS) : Option (RS) := nam (sI st 38 5) (fun st_7 => some st_7)
noncomputable def x9_piece_287  (l4 : Int32) (l5 : Int32) (l11 : Int32) (l12 : Int32) (l13 : Int32) (st : RS) : Option (RS) := pif (l11 = 0) (x9_piece_345  l4 l5 l11 l13 st) (pif (5 ≤ l12) (pif (l12 = 5) (bnd (x9_isText_30 (gI st 35) (gI st 36) st) (fun r_13 st_11 => pif (r_13 = 0) (x9_piece_337  st_11) (x9_piece_345  l4 l5 l11 l13 st_11))) (x9_piece_345  l4 l5 l11 l13 st)) (bnd (x9_isOf (gJ st 37) l12 st) (fun r_17 st_15 => pif (r_17 = 0) (x9_piece_337  st_15) (x9_piece_345  l4 l5 l11 l13 st_15))))
noncomputable def x9_piece_276  (l4 : Int32) (l5 : Int32) (l11 : Int32) (l12 : Int32) (l13 : Int32) (s0 : Int32) (s1 : Int32) (st : RS) : Option (RS) := pif (s1 = s0) (x9_piece_287  l4 l5 l11 l12 l13 st) (nam (sI st 38 4) (fun st_20 => some st_20))
noncomputable def x9_piece_177  (l3 : Int32) (l4 : Int32) (l5 : Int32) (l10 : Int32) (s0 : Int32) (st : RS) : Option (RS) := nam (sI st 36 s0) (fun st_21 => nam (sI st_21 38 0) (fun st_22 => bnd (x9_has l3 (gI st_22 33) st_22) (fun r_25 st_23 => gd (vp_in ((31 * l3) + (gI st_23 33)) 248) (nam (gF st_23 1 ((31 * l3) + (gI st_23 33)).toNatClampNeg) (fun v_27 => gd (vp_in ((31 * l3) + (gI st_23 33)) 248) (nam (gF st_23 2 ((31 * l3) + (gI st_23 33)).toNatClampNeg) (fun v_29 => pif ((gI st_23 33) = 0) (nam (sI st_23 38 2) (fun st_35 => some st_35)) (pif (l10 = 0) (pif (r_25 = 0) (x9_piece_287  l4 l5 r_25 v_27 v_29 st_23) (pif (v_27 ≤ 4) (x9_piece_276  l4 l5 r_25 v_27 v_29 0 (gI st_23 34) st_23) (x9_piece_276  l4 l5 r_25 v_27 v_29 1 (gI st_23 34) st_23))) (nam (sI st_23 38 3) (fun st_34 => some st_34))))))))))
noncomputable def x9_piece_173  (l3 : Int32) (l4 : Int32) (l5 : Int32) (l10 : Int32) (st : RS) : Option (RS) := x9_piece_177  l3 l4 l5 l10 (gI st 32) st
noncomputable def x9_piece_145  (l3 : Int32) (l4 : Int32) (l5 : Int32) (s0 : Int32) (st : RS) : Option (RS) := pif ((gI st 34) = 0) (x9_piece_173  l3 l4 l5 s0 st) (pif (s0 = 0) (x9_piece_177  l3 l4 l5 s0 ((gI st 32) + ((gJ st 31).toInt32)) st) (x9_piece_173  l3 l4 l5 s0 st))
noncomputable def x9_piece_144  (l3 : Int32) (l4 : Int32) (l5 : Int32) (st : RS) : Option (RS) := x9_piece_145  l3 l4 l5 0 st
noncomputable def x9_piece_140  (l3 : Int32) (l4 : Int32) (l5 : Int32) (st : RS) : Option (RS) := x9_piece_145  l3 l4 l5 1 st
noncomputable def x9_piece_67  (l2 : Int32) (l3 : Int32) (l4 : Int32) (l5 : Int32) (s0 : Int32) (st : RS) : Option (RS) := nam (sI st 33 s0) (fun st_38 => bnd (x9_varint (gI st_38 32) l2 st_38) (fun r_41 st_39 => pif (r_41 = 0) (some st_39) (nam (sJ st_39 37 ((((gJ st_39 31).toUInt64 >>> ((1 : Int32).toInt64.toUInt64 &&& Int64.toUInt64 63)).toInt64) ^^^ (-((gJ st_39 31) &&& 1)))) (fun st_43 => nam (sI st_43 35 (gI st_43 32)) (fun st_44 => pif ((gI st_44 34) = 0) (x9_piece_144  l3 l4 l5 st_44) (pif ((lg_cmp (gJ st_44 31) (0 : Int64)) < 0) (x9_piece_140  l3 l4 l5 st_44) (pif ((lg_cmp (gJ st_44 31) ((l2 - (gI st_44 32)).toInt64)) ≤ 0) (x9_piece_144  l3 l4 l5 st_44) (x9_piece_140  l3 l4 l5 st_44))))))))
noncomputable def x9_piece_41  (l2 : Int32) (l3 : Int32) (l4 : Int32) (l5 : Int32) (l6 : Int64) (s0 : Int32) (st : RS) : Option (RS) := gd (narrow .boolean (.int s0) = .int s0 ∧ fits .boolean (.int s0) = true) (nam (sI st 34 s0) (fun st_49 => nam ((l6.toUInt64 >>> ((1 : Int32).toInt64.toUInt64 &&& Int64.toUInt64 63)).toInt64) (fun v_50 => pif ((lg_cmp v_50 (30 : Int64)) ≤ 0) (x9_piece_67  l2 l3 l4 l5 v_50.toInt32 st_49) (x9_piece_67  l2 l3 l4 l5 0 st_49))))
noncomputable def x9_piece (p0 : Int32) (p1 : Int32) (p2 : Int32) (p3 : Int32) (p4 : Int32) (st : RS) : Option (RS) := nam (sI st 38 1) (fun st_52 => nam (sI st_52 33 0) (fun st_53 => bnd (x9_varint p0 p1 st_53) (fun r_56 st_54 => pif (r_56 = 0) (some st_54) (nam (gJ st_54 31) (fun v_58 => pif ((lg_cmp (v_58 &&& 1) (1 : Int64)) = 0) (x9_piece_41  p1 p2 p3 p4 v_58 1 st_54) (x9_piece_41  p1 p2 p3 p4 v_58 0 st_54))))))
def wq_X9_piece : List Cond := .code yX9_piece cX9_piece 14 none :: (([.fieldLink RX9 260 "RecordBenchModel" "pieceFault" "I", .fieldLink RX9 263 "RecordBenchModel" "number" "I", .fieldLink RX9 252 "RecordBenchModel" "varint" "J", .fieldLink RX9 267 "RecordBenchModel" "isLong" "Z", .constantLong RX9 271 (30), .fieldLink RX9 257 "RecordBenchModel" "varintEnd" "I", .fieldLink RX9 273 "RecordBenchModel" "value" "J", .fieldLink RX9 275 "RecordBenchModel" "from" "I", .fieldLink RX9 278 "RecordBenchModel" "to" "I", .fieldLink RX9 13 "RecordBenchModel" "kind" "[I", .fieldLink RX9 17 "RecordBenchModel" "group" "[I", .fieldLink RX9 81 "RecordBenchModel" "row" "[I", .methodLink RX9 281 yX9_isText, .static yX9_isText, .initialized RX9, .methodLink RX9 229 yX9_isOf, .static yX9_isOf, .methodLink RX9 246 yX9_has, .instanceMethod yX9_has, .selects RX9 yX9_has yX9_has, .methodLink RX9 265 yX9_varint, .instanceMethod yX9_varint, .selects RX9 yX9_varint yX9_varint, .code yX9_isText cX9_isText 4 (some .boolean), .code yX9_isOf cX9_isOf 3 (some .boolean), .constantLong RX9 219 (-2147483648), .constantLong RX9 221 (2147483647), .constantLong RX9 215 (-128), .constantLong RX9 217 (127), .code yX9_has cX9_has 3 (some .boolean), .fieldLink RX9 36 "RecordBenchModel" "isThere" "[Z", .code yX9_varint cX9_varint 6 (some .boolean), .constantLong RX9 255 (128)] : List Cond) ++ wsX90)
set_option maxRecDepth 20000 in
theorem gq_X9_piece_X9_isText_30_281 : GoodIn wq_X9_piece (wsS RX9 281 yX9_isText wq_X9_isText_30) := goodIn_app (goodIn_r _ [13, 14, 15] rfl rfl) (goodIn_r _ [24] rfl rfl)
set_option maxRecDepth 20000 in
theorem gq_X9_piece_X9_isOf_229 : GoodIn wq_X9_piece (wsS RX9 229 yX9_isOf wq_X9_isOf) := goodIn_app (goodIn_r _ [16, 17, 15] rfl rfl) (goodIn_r _ [25, 26, 27, 28, 29] rfl rfl)
theorem gs_wq_X9_piece_wsX90 : GoodIn wq_X9_piece wsX90 := fun w h => ⟨List.mem_cons_of_mem _ (List.mem_append_right _ h), (gt_wsX90 w h).2⟩
set_option maxRecDepth 20000 in
theorem gq_X9_piece_X9_has_246 : GoodIn wq_X9_piece (wsV RX9 246 RX9 yX9_has wq_X9_has) := goodIn_app (goodIn_r _ [18, 19, 20, 15] rfl rfl) (goodIn_ca (goodIn_r _ [30, 31, 10] rfl rfl) gs_wq_X9_piece_wsX90)
set_option maxRecDepth 20000 in
theorem gq_X9_piece_X9_varint_265 : GoodIn wq_X9_piece (wsV RX9 265 RX9 yX9_varint wq_X9_varint) := goodIn_app (goodIn_r _ [21, 22, 23, 15] rfl rfl) (goodIn_ca (goodIn_r _ [32, 3, 12, 29, 33, 6] rfl rfl) gs_wq_X9_piece_wsX90)
set_option maxHeartbeats 4000000 in
set_option maxRecDepth 100000 in
theorem c_X9_piece (l : Launch) (dC : Nat → ClassId) (dI : Nat → Nat → Nat) (h0 : Nat) (ar : Nat → Nat) (ca : Nat → ClassId) (p0 : Int32) (p1 : Int32) (p2 : Int32) (p3 : Int32) (p4 : Int32) (st st' : RS) (hf : x9_piece p0 p1 p2 p3 p4 st = some st') (sz : Nat) : Met l yX9_piece wq_X9_piece ({ frames := 1, cells := 0, slots := 0, locals := 29 }) (va_Pc [.ref h0, .int p0, .int p1, .int p2, .int p3, .int p4] (Pr (dC, dI) (rT ca) [] (RW h0 ar ca st) sz)) (va_Qv (fun (_ : Unit) => True) (Bq (dC, dI) (fun _ => RW h0 ar ca st') (fun _ => []) (va_A (RW h0 ar ca st) sz)) (va_A (RW h0 ar ca st) sz)) 0 0 (va_A (RW h0 ar ca st) sz) := by
  refine Met.ofW (cc := cX9_piece) (maxL := 14) (ret := none) (by decide) rfl ?_
  intro p e s m args below meth c s₁ B hml hv
  obtain ⟨rfl, hsz, hP, hK, hD0, hN, hZ, hR⟩ := hv
  have hx := B.exec
  have hb := B.bytes
  have hr := B.returns
  have hts := atoms_spec (ws := wq_X9_piece) B.pre
  have hown : s.vm.findClass RX9 = some m.cls := findClass_of_methodNamed B.named
  have iRX9 : ∀ w ∈ u_ws RX9 TX9 60, w ∈ wq_X9_piece := fun w h => List.mem_cons_of_mem _ (List.mem_append_right _ h)
  subst hsz
  have hp : Rp (dC, dI) h0 ar ca (va_A (RW h0 ar ca st) s.heap.size) s.heap st s.heap [] := ⟨hP, hD0.self, va_S.rf⟩
  generalize hAe : va_A (RW h0 ar ca st) s.heap.size = A at hp hZ ⊢
  have hA : ∀ q : Nat, s.heap.size ≤ q → A q := fun q h => by rw [← hAe]; exact Or.inr h
  have hl := lv_entry ([.ref h0, .int p0, .int p1, .int p2, .int p3, .int p4]) (n := 14) (Nat.le_of_ble_eq_true rfl)
  rw [lg_entry_eq]
  generalize (lg_sl ([.ref h0, .int p0, .int p1, .int p2, .int p3, .int p4]) ++ List.replicate (14 - (lg_sl ([.ref h0, .int p0, .int p1, .int p2, .int p3, .int p4])).length) Slot.unset).toArray = ls at hl ⊢
  have hl : lv_has ls 14 [(0, .ref h0), (1, .int p0), (2, .int p1), (3, .int p2), (4, .int p3), (5, .int p4)] := hl
  refine W_blk (fun (u : Int32 × Int32 × Int32 × Int32 × RS) H locs ls => match u with | (l4, l5, l11, l13, st) => x9_piece_345 l4 l5 l11 l13 st = some st' ∧ Rp (dC, dI) h0 ar ca A s.heap st H locs ∧ lv_has ls 14 [(0, .ref h0), (4, .int l4), (5, .int l5), (11, .int l11), (13, .int l13)]) (fun (u : Int32 × Int32 × Int32 × Int32 × RS) ls => match u with | (l4, l5, l11, l13, st) => F0 m 345 ls []) ?_ (fun J345 => ?_)
  · intro u H locs ls hu
    obtain ⟨l4, l5, l11, l13, st⟩ := u
    obtain ⟨hf, hp, hl⟩ := hu
    show W p l e _ s m _ below meth c _ _ _ _ _ (F0 m 345 ls [])
    unfold x9_piece_345 at hf
    refine lv_aload_n hx hb dX9_piece_345 rfl (lv_at hl 0 rfl) ?_
    refine r_gi hx hb hts iRX9 hown hK hp 33 (by decide) rfl (hts (.fieldLink RX9 263 "RecordBenchModel" "number" "I") (by decide +kernel)) dX9_piece_346 ?_
    refine lv_iload hx hb dX9_piece_349 (lv_at hl 1 rfl) ?_
    refine lv_icmp_gt (tgt := 363) hx hb dX9_piece_351 (by decide) (fun c_1 => ?_) (fun c_1 => ?_)
    · have hf := pif_t c_1 hf
      refine lv_iload hx hb dX9_piece_363 (lv_at hl 3 rfl) ?_
      refine lv_if_eq (tgt := 390) hx hb dX9_piece_365 (by decide) (fun c_2 => ?_) (fun c_2 => ?_)
      · have hf := pif_t c_2 hf
        have e2 := Option.some.inj hf
        exact W.vret hx hb hr (fun t ht hW => ⟨⟨(), rfl, trivial, Rp.end e2 hp hK ht hW⟩, hp.2.2.F ht⟩) hp.2.2.2.2 dX9_piece_390
      · have hf := pif_f c_2 hf
        refine lv_iload hx hb dX9_piece_368 (lv_at hl 4 rfl) ?_
        refine lv_if_le (tgt := 390) hx hb dX9_piece_370 (by decide) (fun c_3 => ?_) (fun c_3 => ?_)
        · have hf := pif_t c_3 hf
          have e2 := Option.some.inj hf
          exact W.vret hx hb hr (fun t ht hW => ⟨⟨(), rfl, trivial, Rp.end e2 hp hK ht hW⟩, hp.2.2.F ht⟩) hp.2.2.2.2 dX9_piece_390
        · have hf := pif_f c_3 hf
          refine lv_iload hx hb dX9_piece_373 (lv_at hl 2 rfl) ?_
          refine lv_iload hx hb dX9_piece_375 (lv_at hl 4 rfl) ?_
          refine lv_ishr hx hb dX9_piece_377 ?_
          refine lv_iconst (v := 1) hx hb dX9_piece_378 (by decide) ?_
          refine lv_iand hx hb dX9_piece_379 ?_
          refine lv_iconst (v := 1) hx hb dX9_piece_380 (by decide) ?_
          refine lv_icmp_ne (tgt := 390) hx hb dX9_piece_381 (by decide) (fun c_4 => ?_) (fun c_4 => ?_)
          · have hf := pif_f c_4 hf
            have e2 := Option.some.inj hf
            exact W.vret hx hb hr (fun t ht hW => ⟨⟨(), rfl, trivial, Rp.end e2 hp hK ht hW⟩, hp.2.2.F ht⟩) hp.2.2.2.2 dX9_piece_390
          · have hf := pif_t c_4 hf
            refine lv_aload_n hx hb dX9_piece_384 rfl (lv_at hl 0 rfl) ?_
            refine lv_bipush (v := 7) hx hb dX9_piece_385 (by decide) ?_
            refine r_pi (v := 7) (ty := .int) hx hb hts iRX9 hown hK hp 38 (by decide) rfl (hts (.fieldLink RX9 260 "RecordBenchModel" "pieceFault" "I") (by decide +kernel)) rfl (by decide +kernel) rfl rfl dX9_piece_387 (fun H locs hp => ?_)
            obtain ⟨st_5, est_5, hf⟩ := nam_some hf
            rw [← est_5] at hp
            have e2 := Option.some.inj hf
            exact W.vret hx hb hr (fun t ht hW => ⟨⟨(), rfl, trivial, Rp.end e2 hp hK ht hW⟩, hp.2.2.F ht⟩) hp.2.2.2.2 dX9_piece_390
    · have hf := pif_f c_1 hf
      refine lv_aload_n hx hb dX9_piece_354 rfl (lv_at hl 0 rfl) ?_
      refine lv_bipush (v := 6) hx hb dX9_piece_355 (by decide) ?_
      refine r_pi (v := 6) (ty := .int) hx hb hts iRX9 hown hK hp 38 (by decide) rfl (hts (.fieldLink RX9 260 "RecordBenchModel" "pieceFault" "I") (by decide +kernel)) rfl (by decide +kernel) rfl rfl dX9_piece_357 (fun H locs hp => ?_)
      obtain ⟨st_6, est_6, hf⟩ := nam_some hf
      rw [← est_6] at hp
      refine lv_goto (tgt := 390) hx hb dX9_piece_360 (by decide) ?_
      have e2 := Option.some.inj hf
      exact W.vret hx hb hr (fun t ht hW => ⟨⟨(), rfl, trivial, Rp.end e2 hp hK ht hW⟩, hp.2.2.F ht⟩) hp.2.2.2.2 dX9_piece_390
  refine W_blk (fun (st : RS) H locs ls => x9_piece_337 st = some st' ∧ Rp (dC, dI) h0 ar ca A s.heap st H locs ∧ lv_has ls 14 [(0, .ref h0)]) (fun (st : RS) ls => F0 m 337 ls []) ?_ (fun J337 => ?_)
  · intro u H locs ls hu
    obtain ⟨st, rfl⟩ : ∃ z, z = u := ⟨_, rfl⟩
    obtain ⟨hf, hp, hl⟩ := hu
    show W p l e _ s m _ below meth c _ _ _ _ _ (F0 m 337 ls [])
    unfold x9_piece_337 at hf
    refine lv_aload_n hx hb dX9_piece_337 rfl (lv_at hl 0 rfl) ?_
    refine lv_iconst (v := 5) hx hb dX9_piece_338 (by decide) ?_
    refine r_pi (v := 5) (ty := .int) hx hb hts iRX9 hown hK hp 38 (by decide) rfl (hts (.fieldLink RX9 260 "RecordBenchModel" "pieceFault" "I") (by decide +kernel)) rfl (by decide +kernel) rfl rfl dX9_piece_339 (fun H locs hp => ?_)
    obtain ⟨st_7, est_7, hf⟩ := nam_some hf
    rw [← est_7] at hp
    refine lv_goto (tgt := 390) hx hb dX9_piece_342 (by decide) ?_
    have e2 := Option.some.inj hf
    exact W.vret hx hb hr (fun t ht hW => ⟨⟨(), rfl, trivial, Rp.end e2 hp hK ht hW⟩, hp.2.2.F ht⟩) hp.2.2.2.2 dX9_piece_390
  refine W_blk (fun (u : Int32 × Int32 × Int32 × Int32 × Int32 × RS) H locs ls => match u with | (l4, l5, l11, l12, l13, st) => x9_piece_287 l4 l5 l11 l12 l13 st = some st' ∧ Rp (dC, dI) h0 ar ca A s.heap st H locs ∧ lv_has ls 14 [(0, .ref h0), (4, .int l4), (5, .int l5), (11, .int l11), (12, .int l12), (13, .int l13)]) (fun (u : Int32 × Int32 × Int32 × Int32 × Int32 × RS) ls => match u with | (l4, l5, l11, l12, l13, st) => F0 m 287 ls []) ?_ (fun J287 => ?_)
  · intro u H locs ls hu
    obtain ⟨l4, l5, l11, l12, l13, st⟩ := u
    obtain ⟨hf, hp, hl⟩ := hu
    show W p l e _ s m _ below meth c _ _ _ _ _ (F0 m 287 ls [])
    unfold x9_piece_287 at hf
    refine lv_iload hx hb dX9_piece_287 (lv_at hl 3 rfl) ?_
    refine lv_if_eq (tgt := 345) hx hb dX9_piece_289 (by decide) (fun c_8 => ?_) (fun c_8 => ?_)
    · have hf := pif_t c_8 hf
      exact J345 (l4, l5, l11, l13, st) _ _ _ ⟨hf, hp, (lv_sub hl [0, 1, 2, 3, 5] rfl)⟩
    · have hf := pif_f c_8 hf
      refine lv_iload hx hb dX9_piece_292 (lv_at hl 4 rfl) ?_
      refine lv_iconst (v := 5) hx hb dX9_piece_294 (by decide) ?_
      refine lv_icmp_ge (tgt := 313) hx hb dX9_piece_295 (by decide) (fun c_9 => ?_) (fun c_9 => ?_)
      · have hf := pif_t c_9 hf
        refine lv_iload hx hb dX9_piece_313 (lv_at hl 4 rfl) ?_
        refine lv_iconst (v := 5) hx hb dX9_piece_315 (by decide) ?_
        refine lv_icmp_ne (tgt := 345) hx hb dX9_piece_316 (by decide) (fun c_10 => ?_) (fun c_10 => ?_)
        · have hf := pif_f c_10 hf
          exact J345 (l4, l5, l11, l13, st) _ _ _ ⟨hf, hp, (lv_sub hl [0, 1, 2, 3, 5] rfl)⟩
        · have hf := pif_t c_10 hf
          refine lv_aload_n hx hb dX9_piece_319 rfl (lv_at hl 0 rfl) ?_
          refine r_ga hx hb hts iRX9 hown hK hp 30 (by decide) (by decide) (hts (.fieldLink RX9 81 "RecordBenchModel" "row" "[I") (by decide +kernel)) dX9_piece_320 ?_
          refine lv_aload_n hx hb dX9_piece_323 rfl (lv_at hl 0 rfl) ?_
          refine r_gi hx hb hts iRX9 hown hK hp 35 (by decide) rfl (hts (.fieldLink RX9 275 "RecordBenchModel" "from" "I") (by decide +kernel)) dX9_piece_324 ?_
          refine lv_aload_n hx hb dX9_piece_327 rfl (lv_at hl 0 rfl) ?_
          refine r_gi hx hb hts iRX9 hown hK hp 36 (by decide) rfl (hts (.fieldLink RX9 278 "RecordBenchModel" "to" "I") (by decide +kernel)) dX9_piece_328 ?_
          obtain ⟨r_13, st_11, hc_12, hf⟩ := bnd_some hf
          refine r_ci hp hA (va_runS (As := [.ref (ar 30), .int (gI st 35), .int (gI st 36)]) (rest := []) ⟨hx, hb, hml, hown, hts⟩ (c_X9_isText_30 l dC dI h0 ar ca (gI st 35) (gI st 36) _ _ _ hc_12 _) (cwS 3 hts gq_X9_piece_X9_isText_30_281 rfl rfl rfl (by decide +kernel) ⟨Nat.le_of_ble_eq_true rfl, Nat.le_of_ble_eq_true rfl⟩) ⟨Pr.blind _, r_pre hp hK hN hZ hA⟩ rfl rfl hl.1 rfl (lv_room (Nat.le_of_ble_eq_true rfl)) dX9_piece_331 ⟨Nat.le_of_ble_eq_true rfl, Nat.le_of_ble_eq_true rfl⟩) (fun H locs hp => ?_)
          refine lv_if_ne (tgt := 345) hx hb dX9_piece_334 (by decide) (fun c_14 => ?_) (fun c_14 => ?_)
          · have hf := pif_f c_14 hf
            exact J345 (l4, l5, l11, l13, st_11) _ _ _ ⟨hf, hp, (lv_sub hl [0, 1, 2, 3, 5] rfl)⟩
          · have hf := pif_t c_14 hf
            exact J337 st_11 _ _ _ ⟨hf, hp, (lv_sub hl [0] rfl)⟩
      · have hf := pif_f c_9 hf
        refine lv_aload_n hx hb dX9_piece_298 rfl (lv_at hl 0 rfl) ?_
        refine r_gj hx hb hts iRX9 hown hK hp 37 (by decide) rfl (hts (.fieldLink RX9 273 "RecordBenchModel" "value" "J") (by decide +kernel)) dX9_piece_299 ?_
        refine lv_iload hx hb dX9_piece_302 (lv_at hl 4 rfl) ?_
        obtain ⟨r_17, st_15, hc_16, hf⟩ := bnd_some hf
        refine r_ci hp hA (va_runS (As := [.long (gJ st 37), .int l12]) (rest := []) ⟨hx, hb, hml, hown, hts⟩ (c_X9_isOf l dC dI h0 ar ca (gJ st 37) l12 _ _ _ hc_16 _) (cwS 2 hts gq_X9_piece_X9_isOf_229 rfl rfl rfl (by decide +kernel) ⟨Nat.le_of_ble_eq_true rfl, Nat.le_of_ble_eq_true rfl⟩) ⟨Pr.blind _, r_pre hp hK hN hZ hA⟩ rfl rfl hl.1 rfl (lv_room (Nat.le_of_ble_eq_true rfl)) dX9_piece_304 ⟨Nat.le_of_ble_eq_true rfl, Nat.le_of_ble_eq_true rfl⟩) (fun H locs hp => ?_)
        refine lv_if_ne (tgt := 345) hx hb dX9_piece_307 (by decide) (fun c_18 => ?_) (fun c_18 => ?_)
        · have hf := pif_f c_18 hf
          exact J345 (l4, l5, l11, l13, st_15) _ _ _ ⟨hf, hp, (lv_sub hl [0, 1, 2, 3, 5] rfl)⟩
        · have hf := pif_t c_18 hf
          refine lv_goto (tgt := 337) hx hb dX9_piece_310 (by decide) ?_
          exact J337 st_15 _ _ _ ⟨hf, hp, (lv_sub hl [0] rfl)⟩
  refine W_blk (fun (u : Int32 × Int32 × Int32 × Int32 × Int32 × Int32 × Int32 × RS) H locs ls => match u with | (l4, l5, l11, l12, l13, s0, s1, st) => x9_piece_276 l4 l5 l11 l12 l13 s0 s1 st = some st' ∧ Rp (dC, dI) h0 ar ca A s.heap st H locs ∧ lv_has ls 14 [(0, .ref h0), (4, .int l4), (5, .int l5), (11, .int l11), (12, .int l12), (13, .int l13)]) (fun (u : Int32 × Int32 × Int32 × Int32 × Int32 × Int32 × Int32 × RS) ls => match u with | (l4, l5, l11, l12, l13, s0, s1, st) => F0 m 276 ls [.int s0, .int s1]) ?_ (fun J276 => ?_)
  · intro u H locs ls hu
    obtain ⟨l4, l5, l11, l12, l13, s0, s1, st⟩ := u
    obtain ⟨hf, hp, hl⟩ := hu
    show W p l e _ s m _ below meth c _ _ _ _ _ (F0 m 276 ls [.int s0, .int s1])
    unfold x9_piece_276 at hf
    refine lv_icmp_eq (tgt := 287) hx hb dX9_piece_276 (by decide) (fun c_19 => ?_) (fun c_19 => ?_)
    · have hf := pif_t c_19 hf
      exact J287 (l4, l5, l11, l12, l13, st) _ _ _ ⟨hf, hp, (lv_sub hl [0, 1, 2, 3, 4, 5] rfl)⟩
    · have hf := pif_f c_19 hf
      refine lv_aload_n hx hb dX9_piece_279 rfl (lv_at hl 0 rfl) ?_
      refine lv_iconst (v := 4) hx hb dX9_piece_280 (by decide) ?_
      refine r_pi (v := 4) (ty := .int) hx hb hts iRX9 hown hK hp 38 (by decide) rfl (hts (.fieldLink RX9 260 "RecordBenchModel" "pieceFault" "I") (by decide +kernel)) rfl (by decide +kernel) rfl rfl dX9_piece_281 (fun H locs hp => ?_)
      obtain ⟨st_20, est_20, hf⟩ := nam_some hf
      rw [← est_20] at hp
      refine lv_goto (tgt := 390) hx hb dX9_piece_284 (by decide) ?_
      have e2 := Option.some.inj hf
      exact W.vret hx hb hr (fun t ht hW => ⟨⟨(), rfl, trivial, Rp.end e2 hp hK ht hW⟩, hp.2.2.F ht⟩) hp.2.2.2.2 dX9_piece_390
  refine W_blk (fun (u : Int32 × Int32 × Int32 × Int32 × Int32 × RS) H locs ls => match u with | (l3, l4, l5, l10, s0, st) => x9_piece_177 l3 l4 l5 l10 s0 st = some st' ∧ Rp (dC, dI) h0 ar ca A s.heap st H locs ∧ lv_has ls 14 [(0, .ref h0), (3, .int l3), (4, .int l4), (5, .int l5), (10, .int l10)]) (fun (u : Int32 × Int32 × Int32 × Int32 × Int32 × RS) ls => match u with | (l3, l4, l5, l10, s0, st) => F0 m 177 ls [.int s0, .ref h0]) ?_ (fun J177 => ?_)
  · intro u H locs ls hu
    obtain ⟨l3, l4, l5, l10, s0, st⟩ := u
    obtain ⟨hf, hp, hl⟩ := hu
    show W p l e _ s m _ below meth c _ _ _ _ _ (F0 m 177 ls [.int s0, .ref h0])
    unfold x9_piece_177 at hf
    refine r_pi (v := s0) (ty := .int) hx hb hts iRX9 hown hK hp 36 (by decide) rfl (hts (.fieldLink RX9 278 "RecordBenchModel" "to" "I") (by decide +kernel)) rfl (by decide +kernel) rfl rfl dX9_piece_177 (fun H locs hp => ?_)
    obtain ⟨st_21, est_21, hf⟩ := nam_some hf
    rw [← est_21] at hp
    refine lv_aload_n hx hb dX9_piece_180 rfl (lv_at hl 0 rfl) ?_
    refine lv_iconst (v := 0) hx hb dX9_piece_181 (by decide) ?_
    refine r_pi (v := 0) (ty := .int) hx hb hts iRX9 hown hK hp 38 (by decide) rfl (hts (.fieldLink RX9 260 "RecordBenchModel" "pieceFault" "I") (by decide +kernel)) rfl (by decide +kernel) rfl rfl dX9_piece_182 (fun H locs hp => ?_)
    obtain ⟨st_22, est_22, hf⟩ := nam_some hf
    rw [← est_22] at hp
    refine lv_aload_n hx hb dX9_piece_185 rfl (lv_at hl 0 rfl) ?_
    refine lv_iload_n hx hb dX9_piece_186 rfl (lv_at hl 1 rfl) ?_
    refine lv_aload_n hx hb dX9_piece_187 rfl (lv_at hl 0 rfl) ?_
    refine r_gi hx hb hts iRX9 hown hK hp 33 (by decide) rfl (hts (.fieldLink RX9 263 "RecordBenchModel" "number" "I") (by decide +kernel)) dX9_piece_188 ?_
    obtain ⟨r_25, st_23, hc_24, hf⟩ := bnd_some hf
    refine r_ci hp hA (va_runV (As := [.int l3, .int (gI st_22 33)]) (rest := []) ⟨hx, hb, hml, hown, hts⟩ (c_X9_has l dC dI h0 ar ca l3 (gI st_22 33) _ _ _ hc_24 _) (cwV 2 hts gq_X9_piece_X9_has_246 rfl rfl rfl (by decide +kernel) ⟨Nat.le_of_ble_eq_true rfl, Nat.le_of_ble_eq_true rfl⟩) ⟨Pr.blind _, va_recv hK hp.1 (ci := 11) (q0 := 0) rfl rfl, r_pre hp hK hN hZ hA⟩ rfl rfl hl.1 rfl (lv_room (Nat.le_of_ble_eq_true rfl)) dX9_piece_191 ⟨Nat.le_of_ble_eq_true rfl, Nat.le_of_ble_eq_true rfl⟩) (fun H locs hp => ?_)
    refine lv_istore (lv' := [(11, .int r_25), (0, .ref h0), (3, .int l3), (4, .int l4), (5, .int l5), (10, .int l10)]) hx hb dX9_piece_194 hl (by decide) rfl (fun ls hl => ?_)
    refine lv_aload_n hx hb dX9_piece_196 rfl (lv_at hl 1 rfl) ?_
    refine r_ga hx hb hts iRX9 hown hK hp 1 (by decide) (by decide) (hts (.fieldLink RX9 13 "RecordBenchModel" "kind" "[I") (by decide +kernel)) dX9_piece_197 ?_
    refine lv_bipush (v := 31) hx hb dX9_piece_200 (by decide) ?_
    refine lv_iload_n hx hb dX9_piece_202 rfl (lv_at hl 2 rfl) ?_
    refine lv_imul hx hb dX9_piece_203 ?_
    refine lv_aload_n hx hb dX9_piece_204 rfl (lv_at hl 1 rfl) ?_
    refine r_gi hx hb hts iRX9 hown hK hp 33 (by decide) rfl (hts (.fieldLink RX9 263 "RecordBenchModel" "number" "I") (by decide +kernel)) dX9_piece_205 ?_
    refine lv_iadd hx hb dX9_piece_208 ?_
    obtain ⟨g_26, hf⟩ := gd_some hf
    refine r_ai (n := 248) hx hb hK hp 1 1 rfl rfl rfl g_26 dX9_piece_209 ?_
    obtain ⟨v_27, ev_27, hf⟩ := nam_some hf
    refine W_toi (y := v_27) ev_27.symm ?_
    refine lv_istore (lv' := [(12, .int v_27), (11, .int r_25), (0, .ref h0), (3, .int l3), (4, .int l4), (5, .int l5), (10, .int l10)]) hx hb dX9_piece_210 hl (by decide) rfl (fun ls hl => ?_)
    refine lv_aload_n hx hb dX9_piece_212 rfl (lv_at hl 2 rfl) ?_
    refine r_ga hx hb hts iRX9 hown hK hp 2 (by decide) (by decide) (hts (.fieldLink RX9 17 "RecordBenchModel" "group" "[I") (by decide +kernel)) dX9_piece_213 ?_
    refine lv_bipush (v := 31) hx hb dX9_piece_216 (by decide) ?_
    refine lv_iload_n hx hb dX9_piece_218 rfl (lv_at hl 3 rfl) ?_
    refine lv_imul hx hb dX9_piece_219 ?_
    refine lv_aload_n hx hb dX9_piece_220 rfl (lv_at hl 2 rfl) ?_
    refine r_gi hx hb hts iRX9 hown hK hp 33 (by decide) rfl (hts (.fieldLink RX9 263 "RecordBenchModel" "number" "I") (by decide +kernel)) dX9_piece_221 ?_
    refine lv_iadd hx hb dX9_piece_224 ?_
    obtain ⟨g_28, hf⟩ := gd_some hf
    refine r_ai (n := 248) hx hb hK hp 2 2 rfl rfl rfl g_28 dX9_piece_225 ?_
    obtain ⟨v_29, ev_29, hf⟩ := nam_some hf
    refine W_toi (y := v_29) ev_29.symm ?_
    refine lv_istore (lv' := [(13, .int v_29), (12, .int v_27), (11, .int r_25), (0, .ref h0), (3, .int l3), (4, .int l4), (5, .int l5), (10, .int l10)]) hx hb dX9_piece_226 hl (by decide) rfl (fun ls hl => ?_)
    refine lv_aload_n hx hb dX9_piece_228 rfl (lv_at hl 3 rfl) ?_
    refine r_gi hx hb hts iRX9 hown hK hp 33 (by decide) rfl (hts (.fieldLink RX9 263 "RecordBenchModel" "number" "I") (by decide +kernel)) dX9_piece_229 ?_
    refine lv_if_ne (tgt := 243) hx hb dX9_piece_232 (by decide) (fun c_30 => ?_) (fun c_30 => ?_)
    · have hf := pif_f c_30 hf
      refine lv_iload hx hb dX9_piece_243 (lv_at hl 7 rfl) ?_
      refine lv_if_eq (tgt := 256) hx hb dX9_piece_245 (by decide) (fun c_31 => ?_) (fun c_31 => ?_)
      · have hf := pif_t c_31 hf
        refine lv_iload hx hb dX9_piece_256 (lv_at hl 2 rfl) ?_
        refine lv_if_eq (tgt := 287) hx hb dX9_piece_258 (by decide) (fun c_32 => ?_) (fun c_32 => ?_)
        · have hf := pif_t c_32 hf
          exact J287 (l4, l5, r_25, v_27, v_29, st_23) _ _ _ ⟨hf, hp, (lv_sub hl [3, 5, 6, 2, 1, 0] rfl)⟩
        · have hf := pif_f c_32 hf
          refine lv_aload_n hx hb dX9_piece_261 rfl (lv_at hl 3 rfl) ?_
          refine r_gi hx hb hts iRX9 hown hK hp 34 (by decide) rfl (hts (.fieldLink RX9 267 "RecordBenchModel" "isLong" "Z") (by decide +kernel)) dX9_piece_262 ?_
          refine lv_iload hx hb dX9_piece_265 (lv_at hl 1 rfl) ?_
          refine lv_iconst (v := 4) hx hb dX9_piece_267 (by decide) ?_
          refine lv_icmp_le (tgt := 275) hx hb dX9_piece_268 (by decide) (fun c_33 => ?_) (fun c_33 => ?_)
          · have hf := pif_t c_33 hf
            refine lv_iconst (v := 0) hx hb dX9_piece_275 (by decide) ?_
            exact J276 (l4, l5, r_25, v_27, v_29, 0, (gI st_23 34), st_23) _ _ _ ⟨hf, hp, (lv_sub hl [3, 5, 6, 2, 1, 0] rfl)⟩
          · have hf := pif_f c_33 hf
            refine lv_iconst (v := 1) hx hb dX9_piece_271 (by decide) ?_
            refine lv_goto (tgt := 276) hx hb dX9_piece_272 (by decide) ?_
            exact J276 (l4, l5, r_25, v_27, v_29, 1, (gI st_23 34), st_23) _ _ _ ⟨hf, hp, (lv_sub hl [3, 5, 6, 2, 1, 0] rfl)⟩
      · have hf := pif_f c_31 hf
        refine lv_aload_n hx hb dX9_piece_248 rfl (lv_at hl 3 rfl) ?_
        refine lv_iconst (v := 3) hx hb dX9_piece_249 (by decide) ?_
        refine r_pi (v := 3) (ty := .int) hx hb hts iRX9 hown hK hp 38 (by decide) rfl (hts (.fieldLink RX9 260 "RecordBenchModel" "pieceFault" "I") (by decide +kernel)) rfl (by decide +kernel) rfl rfl dX9_piece_250 (fun H locs hp => ?_)
        obtain ⟨st_34, est_34, hf⟩ := nam_some hf
        rw [← est_34] at hp
        refine lv_goto (tgt := 390) hx hb dX9_piece_253 (by decide) ?_
        have e2 := Option.some.inj hf
        exact W.vret hx hb hr (fun t ht hW => ⟨⟨(), rfl, trivial, Rp.end e2 hp hK ht hW⟩, hp.2.2.F ht⟩) hp.2.2.2.2 dX9_piece_390
    · have hf := pif_t c_30 hf
      refine lv_aload_n hx hb dX9_piece_235 rfl (lv_at hl 3 rfl) ?_
      refine lv_iconst (v := 2) hx hb dX9_piece_236 (by decide) ?_
      refine r_pi (v := 2) (ty := .int) hx hb hts iRX9 hown hK hp 38 (by decide) rfl (hts (.fieldLink RX9 260 "RecordBenchModel" "pieceFault" "I") (by decide +kernel)) rfl (by decide +kernel) rfl rfl dX9_piece_237 (fun H locs hp => ?_)
      obtain ⟨st_35, est_35, hf⟩ := nam_some hf
      rw [← est_35] at hp
      refine lv_goto (tgt := 390) hx hb dX9_piece_240 (by decide) ?_
      have e2 := Option.some.inj hf
      exact W.vret hx hb hr (fun t ht hW => ⟨⟨(), rfl, trivial, Rp.end e2 hp hK ht hW⟩, hp.2.2.F ht⟩) hp.2.2.2.2 dX9_piece_390
  refine W_blk (fun (u : Int32 × Int32 × Int32 × Int32 × RS) H locs ls => match u with | (l3, l4, l5, l10, st) => x9_piece_173 l3 l4 l5 l10 st = some st' ∧ Rp (dC, dI) h0 ar ca A s.heap st H locs ∧ lv_has ls 14 [(0, .ref h0), (3, .int l3), (4, .int l4), (5, .int l5), (10, .int l10)]) (fun (u : Int32 × Int32 × Int32 × Int32 × RS) ls => match u with | (l3, l4, l5, l10, st) => F0 m 173 ls [.ref h0]) ?_ (fun J173 => ?_)
  · intro u H locs ls hu
    obtain ⟨l3, l4, l5, l10, st⟩ := u
    obtain ⟨hf, hp, hl⟩ := hu
    show W p l e _ s m _ below meth c _ _ _ _ _ (F0 m 173 ls [.ref h0])
    unfold x9_piece_173 at hf
    refine lv_aload_n hx hb dX9_piece_173 rfl (lv_at hl 0 rfl) ?_
    refine r_gi hx hb hts iRX9 hown hK hp 32 (by decide) rfl (hts (.fieldLink RX9 257 "RecordBenchModel" "varintEnd" "I") (by decide +kernel)) dX9_piece_174 ?_
    exact J177 (l3, l4, l5, l10, (gI st 32), st) _ _ _ ⟨hf, hp, (lv_sub hl [0, 1, 2, 3, 4] rfl)⟩
  refine W_blk (fun (u : Int32 × Int32 × Int32 × Int32 × RS) H locs ls => match u with | (l3, l4, l5, s0, st) => x9_piece_145 l3 l4 l5 s0 st = some st' ∧ Rp (dC, dI) h0 ar ca A s.heap st H locs ∧ lv_has ls 14 [(0, .ref h0), (3, .int l3), (4, .int l4), (5, .int l5)]) (fun (u : Int32 × Int32 × Int32 × Int32 × RS) ls => match u with | (l3, l4, l5, s0, st) => F0 m 145 ls [.int s0]) ?_ (fun J145 => ?_)
  · intro u H locs ls hu
    obtain ⟨l3, l4, l5, s0, st⟩ := u
    obtain ⟨hf, hp, hl⟩ := hu
    show W p l e _ s m _ below meth c _ _ _ _ _ (F0 m 145 ls [.int s0])
    unfold x9_piece_145 at hf
    refine lv_istore (lv' := [(10, .int s0), (0, .ref h0), (3, .int l3), (4, .int l4), (5, .int l5)]) hx hb dX9_piece_145 hl (by decide) rfl (fun ls hl => ?_)
    refine lv_aload_n hx hb dX9_piece_147 rfl (lv_at hl 1 rfl) ?_
    refine lv_aload_n hx hb dX9_piece_148 rfl (lv_at hl 1 rfl) ?_
    refine r_gi hx hb hts iRX9 hown hK hp 34 (by decide) rfl (hts (.fieldLink RX9 267 "RecordBenchModel" "isLong" "Z") (by decide +kernel)) dX9_piece_149 ?_
    refine lv_if_eq (tgt := 173) hx hb dX9_piece_152 (by decide) (fun c_36 => ?_) (fun c_36 => ?_)
    · have hf := pif_t c_36 hf
      exact J173 (l3, l4, l5, s0, st) _ _ _ ⟨hf, hp, (lv_sub hl [1, 2, 3, 4, 0] rfl)⟩
    · have hf := pif_f c_36 hf
      refine lv_iload hx hb dX9_piece_155 (lv_at hl 0 rfl) ?_
      refine lv_if_ne (tgt := 173) hx hb dX9_piece_157 (by decide) (fun c_37 => ?_) (fun c_37 => ?_)
      · have hf := pif_f c_37 hf
        exact J173 (l3, l4, l5, s0, st) _ _ _ ⟨hf, hp, (lv_sub hl [1, 2, 3, 4, 0] rfl)⟩
      · have hf := pif_t c_37 hf
        refine lv_aload_n hx hb dX9_piece_160 rfl (lv_at hl 1 rfl) ?_
        refine r_gi hx hb hts iRX9 hown hK hp 32 (by decide) rfl (hts (.fieldLink RX9 257 "RecordBenchModel" "varintEnd" "I") (by decide +kernel)) dX9_piece_161 ?_
        refine lv_aload_n hx hb dX9_piece_164 rfl (lv_at hl 1 rfl) ?_
        refine r_gj hx hb hts iRX9 hown hK hp 31 (by decide) rfl (hts (.fieldLink RX9 252 "RecordBenchModel" "varint" "J") (by decide +kernel)) dX9_piece_165 ?_
        refine lv_l2i (v := (gJ st 31).toInt32) hx hb dX9_piece_168 rfl ?_
        refine lv_iadd hx hb dX9_piece_169 ?_
        refine lv_goto (tgt := 177) hx hb dX9_piece_170 (by decide) ?_
        exact J177 (l3, l4, l5, s0, ((gI st 32) + ((gJ st 31).toInt32)), st) _ _ _ ⟨hf, hp, (lv_sub hl [1, 2, 3, 4, 0] rfl)⟩
  refine W_blk (fun (u : Int32 × Int32 × Int32 × RS) H locs ls => match u with | (l3, l4, l5, st) => x9_piece_144 l3 l4 l5 st = some st' ∧ Rp (dC, dI) h0 ar ca A s.heap st H locs ∧ lv_has ls 14 [(0, .ref h0), (3, .int l3), (4, .int l4), (5, .int l5)]) (fun (u : Int32 × Int32 × Int32 × RS) ls => match u with | (l3, l4, l5, st) => F0 m 144 ls []) ?_ (fun J144 => ?_)
  · intro u H locs ls hu
    obtain ⟨l3, l4, l5, st⟩ := u
    obtain ⟨hf, hp, hl⟩ := hu
    show W p l e _ s m _ below meth c _ _ _ _ _ (F0 m 144 ls [])
    unfold x9_piece_144 at hf
    refine lv_iconst (v := 0) hx hb dX9_piece_144 (by decide) ?_
    exact J145 (l3, l4, l5, 0, st) _ _ _ ⟨hf, hp, (lv_sub hl [0, 1, 2, 3] rfl)⟩
  refine W_blk (fun (u : Int32 × Int32 × Int32 × RS) H locs ls => match u with | (l3, l4, l5, st) => x9_piece_140 l3 l4 l5 st = some st' ∧ Rp (dC, dI) h0 ar ca A s.heap st H locs ∧ lv_has ls 14 [(0, .ref h0), (3, .int l3), (4, .int l4), (5, .int l5)]) (fun (u : Int32 × Int32 × Int32 × RS) ls => match u with | (l3, l4, l5, st) => F0 m 140 ls []) ?_ (fun J140 => ?_)
  · intro u H locs ls hu
    obtain ⟨l3, l4, l5, st⟩ := u
    obtain ⟨hf, hp, hl⟩ := hu
    show W p l e _ s m _ below meth c _ _ _ _ _ (F0 m 140 ls [])
    unfold x9_piece_140 at hf
    refine lv_iconst (v := 1) hx hb dX9_piece_140 (by decide) ?_
    refine lv_goto (tgt := 145) hx hb dX9_piece_141 (by decide) ?_
    exact J145 (l3, l4, l5, 1, st) _ _ _ ⟨hf, hp, (lv_sub hl [0, 1, 2, 3] rfl)⟩
  refine W_blk (fun (u : Int32 × Int32 × Int32 × Int32 × Int32 × RS) H locs ls => match u with | (l2, l3, l4, l5, s0, st) => x9_piece_67 l2 l3 l4 l5 s0 st = some st' ∧ Rp (dC, dI) h0 ar ca A s.heap st H locs ∧ lv_has ls 14 [(0, .ref h0), (2, .int l2), (3, .int l3), (4, .int l4), (5, .int l5)]) (fun (u : Int32 × Int32 × Int32 × Int32 × Int32 × RS) ls => match u with | (l2, l3, l4, l5, s0, st) => F0 m 67 ls [.int s0, .ref h0]) ?_ (fun J67 => ?_)
  · intro u H locs ls hu
    obtain ⟨l2, l3, l4, l5, s0, st⟩ := u
    obtain ⟨hf, hp, hl⟩ := hu
    show W p l e _ s m _ below meth c _ _ _ _ _ (F0 m 67 ls [.int s0, .ref h0])
    unfold x9_piece_67 at hf
    refine r_pi (v := s0) (ty := .int) hx hb hts iRX9 hown hK hp 33 (by decide) rfl (hts (.fieldLink RX9 263 "RecordBenchModel" "number" "I") (by decide +kernel)) rfl (by decide +kernel) rfl rfl dX9_piece_67 (fun H locs hp => ?_)
    obtain ⟨st_38, est_38, hf⟩ := nam_some hf
    rw [← est_38] at hp
    refine lv_aload_n hx hb dX9_piece_70 rfl (lv_at hl 0 rfl) ?_
    refine lv_aload_n hx hb dX9_piece_71 rfl (lv_at hl 0 rfl) ?_
    refine r_gi hx hb hts iRX9 hown hK hp 32 (by decide) rfl (hts (.fieldLink RX9 257 "RecordBenchModel" "varintEnd" "I") (by decide +kernel)) dX9_piece_72 ?_
    refine lv_iload_n hx hb dX9_piece_75 rfl (lv_at hl 1 rfl) ?_
    obtain ⟨r_41, st_39, hc_40, hf⟩ := bnd_some hf
    refine r_ci hp hA (va_runV (As := [.int (gI st_38 32), .int l2]) (rest := []) ⟨hx, hb, hml, hown, hts⟩ (c_X9_varint l dC dI h0 ar ca (gI st_38 32) l2 _ _ _ hc_40 _) (cwV 2 hts gq_X9_piece_X9_varint_265 rfl rfl rfl (by decide +kernel) ⟨Nat.le_of_ble_eq_true rfl, Nat.le_of_ble_eq_true rfl⟩) ⟨Pr.blind _, va_recv hK hp.1 (ci := 11) (q0 := 0) rfl rfl, r_pre hp hK hN hZ hA⟩ rfl rfl hl.1 rfl (lv_room (Nat.le_of_ble_eq_true rfl)) dX9_piece_76 ⟨Nat.le_of_ble_eq_true rfl, Nat.le_of_ble_eq_true rfl⟩) (fun H locs hp => ?_)
    refine lv_if_ne (tgt := 83) hx hb dX9_piece_79 (by decide) (fun c_42 => ?_) (fun c_42 => ?_)
    · have hf := pif_f c_42 hf
      refine lv_aload_n hx hb dX9_piece_83 rfl (lv_at hl 0 rfl) ?_
      refine lv_aload_n hx hb dX9_piece_84 rfl (lv_at hl 0 rfl) ?_
      refine r_gj hx hb hts iRX9 hown hK hp 31 (by decide) rfl (hts (.fieldLink RX9 252 "RecordBenchModel" "varint" "J") (by decide +kernel)) dX9_piece_85 ?_
      refine lv_iconst (v := 1) hx hb dX9_piece_88 (by decide) ?_
      refine lv_lushr (v := ((gJ st_39 31).toUInt64 >>> ((1 : Int32).toInt64.toUInt64 &&& Int64.toUInt64 63)).toInt64) hx hb dX9_piece_89 rfl ?_
      refine lv_aload_n hx hb dX9_piece_90 rfl (lv_at hl 0 rfl) ?_
      refine r_gj hx hb hts iRX9 hown hK hp 31 (by decide) rfl (hts (.fieldLink RX9 252 "RecordBenchModel" "varint" "J") (by decide +kernel)) dX9_piece_91 ?_
      refine lv_lconst (v := 1) hx hb dX9_piece_94 (by decide) ?_
      refine lv_land hx hb dX9_piece_95 ?_
      refine lv_lneg hx hb dX9_piece_96 ?_
      refine lv_lxor hx hb dX9_piece_97 ?_
      refine r_pj (v := (((gJ st_39 31).toUInt64 >>> ((1 : Int32).toInt64.toUInt64 &&& Int64.toUInt64 63)).toInt64) ^^^ (-((gJ st_39 31) &&& 1))) (ty := .long) hx hb hts iRX9 hown hK hp 37 (by decide) rfl (hts (.fieldLink RX9 273 "RecordBenchModel" "value" "J") (by decide +kernel)) rfl (by decide +kernel) rfl rfl dX9_piece_98 (fun H locs hp => ?_)
      obtain ⟨st_43, est_43, hf⟩ := nam_some hf
      rw [← est_43] at hp
      refine lv_aload_n hx hb dX9_piece_101 rfl (lv_at hl 0 rfl) ?_
      refine lv_aload_n hx hb dX9_piece_102 rfl (lv_at hl 0 rfl) ?_
      refine r_gi hx hb hts iRX9 hown hK hp 32 (by decide) rfl (hts (.fieldLink RX9 257 "RecordBenchModel" "varintEnd" "I") (by decide +kernel)) dX9_piece_103 ?_
      refine r_pi (v := gI st_43 32) (ty := .int) hx hb hts iRX9 hown hK hp 35 (by decide) rfl (hts (.fieldLink RX9 275 "RecordBenchModel" "from" "I") (by decide +kernel)) rfl (by decide +kernel) rfl rfl dX9_piece_106 (fun H locs hp => ?_)
      obtain ⟨st_44, est_44, hf⟩ := nam_some hf
      rw [← est_44] at hp
      refine lv_aload_n hx hb dX9_piece_109 rfl (lv_at hl 0 rfl) ?_
      refine r_gi hx hb hts iRX9 hown hK hp 34 (by decide) rfl (hts (.fieldLink RX9 267 "RecordBenchModel" "isLong" "Z") (by decide +kernel)) dX9_piece_110 ?_
      refine lv_if_eq (tgt := 144) hx hb dX9_piece_113 (by decide) (fun c_45 => ?_) (fun c_45 => ?_)
      · have hf := pif_t c_45 hf
        exact J144 (l3, l4, l5, st_44) _ _ _ ⟨hf, hp, (lv_sub hl [0, 2, 3, 4] rfl)⟩
      · have hf := pif_f c_45 hf
        refine lv_aload_n hx hb dX9_piece_116 rfl (lv_at hl 0 rfl) ?_
        refine r_gj hx hb hts iRX9 hown hK hp 31 (by decide) rfl (hts (.fieldLink RX9 252 "RecordBenchModel" "varint" "J") (by decide +kernel)) dX9_piece_117 ?_
        refine lv_lconst (v := 0) hx hb dX9_piece_120 (by decide) ?_
        refine W.lcmp hx hb dX9_piece_121 ?_
        refine lv_if_lt (tgt := 140) hx hb dX9_piece_122 (by decide) (fun c_46 => ?_) (fun c_46 => ?_)
        · have hf := pif_t c_46 hf
          exact J140 (l3, l4, l5, st_44) _ _ _ ⟨hf, hp, (lv_sub hl [0, 2, 3, 4] rfl)⟩
        · have hf := pif_f c_46 hf
          refine lv_aload_n hx hb dX9_piece_125 rfl (lv_at hl 0 rfl) ?_
          refine r_gj hx hb hts iRX9 hown hK hp 31 (by decide) rfl (hts (.fieldLink RX9 252 "RecordBenchModel" "varint" "J") (by decide +kernel)) dX9_piece_126 ?_
          refine lv_iload_n hx hb dX9_piece_129 rfl (lv_at hl 1 rfl) ?_
          refine lv_aload_n hx hb dX9_piece_130 rfl (lv_at hl 0 rfl) ?_
          refine r_gi hx hb hts iRX9 hown hK hp 32 (by decide) rfl (hts (.fieldLink RX9 257 "RecordBenchModel" "varintEnd" "I") (by decide +kernel)) dX9_piece_131 ?_
          refine lv_isub hx hb dX9_piece_134 ?_
          refine lv_i2l (v := (l2 - (gI st_44 32)).toInt64) hx hb dX9_piece_135 rfl ?_
          refine W.lcmp hx hb dX9_piece_136 ?_
          refine lv_if_le (tgt := 144) hx hb dX9_piece_137 (by decide) (fun c_47 => ?_) (fun c_47 => ?_)
          · have hf := pif_t c_47 hf
            exact J144 (l3, l4, l5, st_44) _ _ _ ⟨hf, hp, (lv_sub hl [0, 2, 3, 4] rfl)⟩
          · have hf := pif_f c_47 hf
            exact J140 (l3, l4, l5, st_44) _ _ _ ⟨hf, hp, (lv_sub hl [0, 2, 3, 4] rfl)⟩
    · have hf := pif_t c_42 hf
      have e2 := Option.some.inj hf
      exact W.vret hx hb hr (fun t ht hW => ⟨⟨(), rfl, trivial, Rp.end e2 hp hK ht hW⟩, hp.2.2.F ht⟩) hp.2.2.2.2 dX9_piece_82
  refine W_blk (fun (u : Int32 × Int32 × Int32 × Int32 × Int64 × Int32 × RS) H locs ls => match u with | (l2, l3, l4, l5, l6, s0, st) => x9_piece_41 l2 l3 l4 l5 l6 s0 st = some st' ∧ Rp (dC, dI) h0 ar ca A s.heap st H locs ∧ lv_has ls 14 [(0, .ref h0), (2, .int l2), (3, .int l3), (4, .int l4), (5, .int l5), (6, .long l6)]) (fun (u : Int32 × Int32 × Int32 × Int32 × Int64 × Int32 × RS) ls => match u with | (l2, l3, l4, l5, l6, s0, st) => F0 m 41 ls [.int s0, .ref h0]) ?_ (fun J41 => ?_)
  · intro u H locs ls hu
    obtain ⟨l2, l3, l4, l5, l6, s0, st⟩ := u
    obtain ⟨hf, hp, hl⟩ := hu
    show W p l e _ s m _ below meth c _ _ _ _ _ (F0 m 41 ls [.int s0, .ref h0])
    unfold x9_piece_41 at hf
    obtain ⟨g_48, hf⟩ := gd_some hf
    refine r_pi (v := s0) (ty := .boolean) hx hb hts iRX9 hown hK hp 34 (by decide) rfl (hts (.fieldLink RX9 267 "RecordBenchModel" "isLong" "Z") (by decide +kernel)) rfl (by decide +kernel) g_48.1 g_48.2 dX9_piece_41 (fun H locs hp => ?_)
    obtain ⟨st_49, est_49, hf⟩ := nam_some hf
    rw [← est_49] at hp
    refine lv_lload hx hb dX9_piece_44 (lv_at hl 5 rfl) ?_
    refine lv_iconst (v := 1) hx hb dX9_piece_46 (by decide) ?_
    refine lv_lushr (v := (l6.toUInt64 >>> ((1 : Int32).toInt64.toUInt64 &&& Int64.toUInt64 63)).toInt64) hx hb dX9_piece_47 rfl ?_
    obtain ⟨v_50, ev_50, hf⟩ := nam_some hf
    refine W_tol (y := v_50) ev_50.symm ?_
    refine lv_lstore (lv' := [(8, .long v_50), (0, .ref h0), (2, .int l2), (3, .int l3), (4, .int l4), (5, .int l5), (6, .long l6)]) hx hb dX9_piece_48 hl (by decide) rfl (fun ls hl => ?_)
    refine lv_aload_n hx hb dX9_piece_50 rfl (lv_at hl 1 rfl) ?_
    refine lv_lload hx hb dX9_piece_51 (lv_at hl 0 rfl) ?_
    refine lv_ldc2 hx hb hown (hts (.constantLong RX9 271 (30)) (by decide +kernel)) dX9_piece_53 ?_
    refine W.lcmp hx hb dX9_piece_56 ?_
    refine lv_if_le (tgt := 64) hx hb dX9_piece_57 (by decide) (fun c_51 => ?_) (fun c_51 => ?_)
    · have hf := pif_t c_51 hf
      refine lv_lload hx hb dX9_piece_64 (lv_at hl 0 rfl) ?_
      refine lv_l2i (v := v_50.toInt32) hx hb dX9_piece_66 rfl ?_
      exact J67 (l2, l3, l4, l5, v_50.toInt32, st_49) _ _ _ ⟨hf, hp, (lv_sub hl [1, 2, 3, 4, 5] rfl)⟩
    · have hf := pif_f c_51 hf
      refine lv_iconst (v := 0) hx hb dX9_piece_60 (by decide) ?_
      refine lv_goto (tgt := 67) hx hb dX9_piece_61 (by decide) ?_
      exact J67 (l2, l3, l4, l5, 0, st_49) _ _ _ ⟨hf, hp, (lv_sub hl [1, 2, 3, 4, 5] rfl)⟩
  unfold x9_piece at hf
  refine lv_aload_n hx hb dX9_piece_0 rfl (lv_at hl 0 rfl) ?_
  refine lv_iconst (v := 1) hx hb dX9_piece_1 (by decide) ?_
  refine r_pi (v := 1) (ty := .int) hx hb hts iRX9 hown hK hp 38 (by decide) rfl (hts (.fieldLink RX9 260 "RecordBenchModel" "pieceFault" "I") (by decide +kernel)) rfl (by decide +kernel) rfl rfl dX9_piece_2 (fun H locs hp => ?_)
  obtain ⟨st_52, est_52, hf⟩ := nam_some hf
  rw [← est_52] at hp
  refine lv_aload_n hx hb dX9_piece_5 rfl (lv_at hl 0 rfl) ?_
  refine lv_iconst (v := 0) hx hb dX9_piece_6 (by decide) ?_
  refine r_pi (v := 0) (ty := .int) hx hb hts iRX9 hown hK hp 33 (by decide) rfl (hts (.fieldLink RX9 263 "RecordBenchModel" "number" "I") (by decide +kernel)) rfl (by decide +kernel) rfl rfl dX9_piece_7 (fun H locs hp => ?_)
  obtain ⟨st_53, est_53, hf⟩ := nam_some hf
  rw [← est_53] at hp
  refine lv_aload_n hx hb dX9_piece_10 rfl (lv_at hl 0 rfl) ?_
  refine lv_iload_n hx hb dX9_piece_11 rfl (lv_at hl 1 rfl) ?_
  refine lv_iload_n hx hb dX9_piece_12 rfl (lv_at hl 2 rfl) ?_
  obtain ⟨r_56, st_54, hc_55, hf⟩ := bnd_some hf
  refine r_ci hp hA (va_runV (As := [.int p0, .int p1]) (rest := []) ⟨hx, hb, hml, hown, hts⟩ (c_X9_varint l dC dI h0 ar ca p0 p1 _ _ _ hc_55 _) (cwV 2 hts gq_X9_piece_X9_varint_265 rfl rfl rfl (by decide +kernel) ⟨Nat.le_of_ble_eq_true rfl, Nat.le_of_ble_eq_true rfl⟩) ⟨Pr.blind _, va_recv hK hp.1 (ci := 11) (q0 := 0) rfl rfl, r_pre hp hK hN hZ hA⟩ rfl rfl hl.1 rfl (lv_room (Nat.le_of_ble_eq_true rfl)) dX9_piece_13 ⟨Nat.le_of_ble_eq_true rfl, Nat.le_of_ble_eq_true rfl⟩) (fun H locs hp => ?_)
  refine lv_if_ne (tgt := 20) hx hb dX9_piece_16 (by decide) (fun c_57 => ?_) (fun c_57 => ?_)
  · have hf := pif_f c_57 hf
    refine lv_aload_n hx hb dX9_piece_20 rfl (lv_at hl 0 rfl) ?_
    refine r_gj hx hb hts iRX9 hown hK hp 31 (by decide) rfl (hts (.fieldLink RX9 252 "RecordBenchModel" "varint" "J") (by decide +kernel)) dX9_piece_21 ?_
    obtain ⟨v_58, ev_58, hf⟩ := nam_some hf
    refine W_tol (y := v_58) ev_58.symm ?_
    refine lv_lstore (lv' := [(6, .long v_58), (0, .ref h0), (1, .int p0), (2, .int p1), (3, .int p2), (4, .int p3), (5, .int p4)]) hx hb dX9_piece_24 hl (by decide) rfl (fun ls hl => ?_)
    refine lv_aload_n hx hb dX9_piece_26 rfl (lv_at hl 1 rfl) ?_
    refine lv_lload hx hb dX9_piece_27 (lv_at hl 0 rfl) ?_
    refine lv_lconst (v := 1) hx hb dX9_piece_29 (by decide) ?_
    refine lv_land hx hb dX9_piece_30 ?_
    refine lv_lconst (v := 1) hx hb dX9_piece_31 (by decide) ?_
    refine W.lcmp hx hb dX9_piece_32 ?_
    refine lv_if_ne (tgt := 40) hx hb dX9_piece_33 (by decide) (fun c_59 => ?_) (fun c_59 => ?_)
    · have hf := pif_f c_59 hf
      refine lv_iconst (v := 0) hx hb dX9_piece_40 (by decide) ?_
      exact J41 (p1, p2, p3, p4, v_58, 0, st_54) _ _ _ ⟨hf, hp, (lv_sub hl [1, 3, 4, 5, 6, 0] rfl)⟩
    · have hf := pif_t c_59 hf
      refine lv_iconst (v := 1) hx hb dX9_piece_36 (by decide) ?_
      refine lv_goto (tgt := 41) hx hb dX9_piece_37 (by decide) ?_
      exact J41 (p1, p2, p3, p4, v_58, 1, st_54) _ _ _ ⟨hf, hp, (lv_sub hl [1, 3, 4, 5, 6, 0] rfl)⟩
  · have hf := pif_t c_57 hf
    have e2 := Option.some.inj hf
    exact W.vret hx hb hr (fun t ht hW => ⟨⟨(), rfl, trivial, Rp.end e2 hp hK ht hW⟩, hp.2.2.F ht⟩) hp.2.2.2.2 dX9_piece_19
noncomputable def x9_reads_264 (k25 : Int32 → RS → Option (Int32 × RS)) (l3 : Int32) (l6 : Int32) (st : RS) : Option (Int32 × RS) := gd (vp_in l6 248) (pif ((gF st 1 l6.toNatClampNeg) = 6) (nam (l3 + 1) (fun v_3 => gd (vp_in l6 248) (bnv (x9_opens v_3 (gF st 3 l6.toNatClampNeg) (gI st 35) (gI st 36) st) (fun st_5 => k25 v_3 st_5)))) (k25 l3 st))
noncomputable def x9_reads_188 (k25 : Int32 → RS → Option (Int32 × RS)) (l3 : Int32) (l5 : Int32) (st : RS) : Option (Int32 × RS) := gd (vp_in l3 9) (nam (sF st 48 (upd (gF st 48) l3.toNatClampNeg (gI st 36))) (fun st_9 => gd (vp_in l3 9) (nam (sF st_9 50 (upd (gF st_9 50) l3.toNatClampNeg (gI st_9 33))) (fun st_11 => bnd (x9_has l5 (gI st_11 33) st_11) (fun r_14 st_12 => pif (r_14 = 0) (k25 l3 st_12) (nam ((31 * l5) + (gI st_12 33)) (fun v_16 => gd (vp_in v_16 248) (pif ((gF st_12 2 v_16.toNatClampNeg) ≤ 0) (x9_reads_264 k25 l3 v_16 st_12) (gd (vp_in l3 9) (gd (vp_in v_16 248) (gd (vp_in l3 9) (nam (sF st_12 51 (upd (gF st_12 51) l3.toNatClampNeg ((gF st_12 51 l3.toNatClampNeg) ||| ((1 : Int32) <<< ((gF st_12 2 v_16.toNatClampNeg) &&& 31))))) (fun st_22 => x9_reads_264 k25 l3 v_16 st_22)))))))))))))
noncomputable def x9_reads_25  : Nat → Int32 → RS → Option (Int32 × RS)
  | 0 => fun _ _ => none
  | n + 1 => fun l3 st => pif (l3 < 0) (some ((1 : Int32), st)) (gd (vp_in l3 9) (nam (gF st 48 l3.toNatClampNeg) (fun v_25 => gd (vp_in l3 9) (pif (v_25 = (gF st 49 l3.toNatClampNeg)) (nam (l3 + (-1)) (fun v_51 => (x9_reads_25 n) v_51 st)) (gd (vp_in l3 9) (nam (gF st 47 l3.toNatClampNeg) (fun v_29 => gd (vp_in l3 9) (gd (vp_in l3 9) (gd (vp_in l3 9) (bnv (x9_piece v_25 (gF st 49 l3.toNatClampNeg) v_29 (gF st 50 l3.toNatClampNeg) (gF st 51 l3.toNatClampNeg) st) (fun st_33 => pif ((gI st_33 38) = 0) (pif (l3 = 0) (gd (vp_in (gI st_33 41) 64) (nam (sF st_33 42 (upd (gF st_33 42) (gI st_33 41).toNatClampNeg (gI st_33 33))) (fun st_39 => gd (vp_in (gI st_39 41) 64) (nam (sF st_39 43 (upd (gF st_39 43) (gI st_39 41).toNatClampNeg v_25)) (fun st_41 => gd (vp_in (gI st_41 41) 64) (nam (sF st_41 44 (upd (gF st_41 44) (gI st_41 41).toNatClampNeg (gI st_41 35))) (fun st_43 => gd (vp_in (gI st_43 41) 64) (nam (sF st_43 45 (upd (gF st_43 45) (gI st_43 41).toNatClampNeg (gI st_43 36))) (fun st_45 => gd (vp_in (gI st_45 41) 64) (nam (sL st_45 46 (vp_updL (gL st_45 46) (gI st_45 41).toNatClampNeg (gJ st_45 37))) (fun st_47 => nam (sI st_47 41 ((gI st_47 41) + 1)) (fun st_48 => x9_reads_188 (x9_reads_25 n) l3 v_29 st_48)))))))))))) (x9_reads_188 (x9_reads_25 n) l3 v_29 st_33)) (nam (sI st_33 39 (gI st_33 38)) (fun st_49 => nam (sI st_49 40 v_25) (fun st_50 => some ((0 : Int32), st_50)))))))))))))))
theorem x9_reads_25_z  (l3 : Int32) (st : RS) : x9_reads_25  0 l3 st = none := rfl
theorem x9_reads_25_s  (n : Nat) (l3 : Int32) (st : RS) : x9_reads_25  (n + 1) l3 st = pif (l3 < 0) (some ((1 : Int32), st)) (gd (vp_in l3 9) (nam (gF st 48 l3.toNatClampNeg) (fun v_25 => gd (vp_in l3 9) (pif (v_25 = (gF st 49 l3.toNatClampNeg)) (nam (l3 + (-1)) (fun v_51 => (x9_reads_25 n) v_51 st)) (gd (vp_in l3 9) (nam (gF st 47 l3.toNatClampNeg) (fun v_29 => gd (vp_in l3 9) (gd (vp_in l3 9) (gd (vp_in l3 9) (bnv (x9_piece v_25 (gF st 49 l3.toNatClampNeg) v_29 (gF st 50 l3.toNatClampNeg) (gF st 51 l3.toNatClampNeg) st) (fun st_33 => pif ((gI st_33 38) = 0) (pif (l3 = 0) (gd (vp_in (gI st_33 41) 64) (nam (sF st_33 42 (upd (gF st_33 42) (gI st_33 41).toNatClampNeg (gI st_33 33))) (fun st_39 => gd (vp_in (gI st_39 41) 64) (nam (sF st_39 43 (upd (gF st_39 43) (gI st_39 41).toNatClampNeg v_25)) (fun st_41 => gd (vp_in (gI st_41 41) 64) (nam (sF st_41 44 (upd (gF st_41 44) (gI st_41 41).toNatClampNeg (gI st_41 35))) (fun st_43 => gd (vp_in (gI st_43 41) 64) (nam (sF st_43 45 (upd (gF st_43 45) (gI st_43 41).toNatClampNeg (gI st_43 36))) (fun st_45 => gd (vp_in (gI st_45 41) 64) (nam (sL st_45 46 (vp_updL (gL st_45 46) (gI st_45 41).toNatClampNeg (gJ st_45 37))) (fun st_47 => nam (sI st_47 41 ((gI st_47 41) + 1)) (fun st_48 => x9_reads_188 (x9_reads_25 n) l3 v_29 st_48)))))))))))) (x9_reads_188 (x9_reads_25 n) l3 v_29 st_33)) (nam (sI st_33 39 (gI st_33 38)) (fun st_49 => nam (sI st_49 40 v_25) (fun st_50 => some ((0 : Int32), st_50))))))))))))))) := rfl
noncomputable def x9_reads (p0 : Int32) (p1 : Int32) (st : RS) : Option (Int32 × RS) := nam (sI st 39 0) (fun st_52 => nam (sI st_52 40 (-1)) (fun st_53 => nam (sI st_53 41 0) (fun st_54 => bnv (x9_opens 0 p1 0 p0 st_54) (fun st_55 => x9_reads_25  fuel 0 st_55))))
def wq_X9_reads : List Cond := .code yX9_reads cX9_reads 7 (some .boolean) :: (([.fieldLink RX9 285 "RecordBenchModel" "readFault" "I", .fieldLink RX9 288 "RecordBenchModel" "readPlace" "I", .fieldLink RX9 291 "RecordBenchModel" "pieces" "I", .fieldLink RX9 102 "RecordBenchModel" "pileAt" "[I", .fieldLink RX9 105 "RecordBenchModel" "pileEnd" "[I", .fieldLink RX9 99 "RecordBenchModel" "pileMake" "[I", .fieldLink RX9 108 "RecordBenchModel" "pileLast" "[I", .fieldLink RX9 111 "RecordBenchModel" "pileGroups" "[I", .fieldLink RX9 260 "RecordBenchModel" "pieceFault" "I", .fieldLink RX9 84 "RecordBenchModel" "pieceNumber" "[I", .fieldLink RX9 263 "RecordBenchModel" "number" "I", .fieldLink RX9 87 "RecordBenchModel" "pieceBegin" "[I", .fieldLink RX9 90 "RecordBenchModel" "pieceFrom" "[I", .fieldLink RX9 275 "RecordBenchModel" "from" "I", .fieldLink RX9 93 "RecordBenchModel" "pieceTo" "[I", .fieldLink RX9 278 "RecordBenchModel" "to" "I", .fieldLink RX9 96 "RecordBenchModel" "pieceValue" "[J", .fieldLink RX9 273 "RecordBenchModel" "value" "J", .fieldLink RX9 17 "RecordBenchModel" "group" "[I", .fieldLink RX9 13 "RecordBenchModel" "kind" "[I", .fieldLink RX9 20 "RecordBenchModel" "inner" "[I", .methodLink RX9 294 yX9_opens, .instanceMethod yX9_opens, .selects RX9 yX9_opens yX9_opens, .initialized RX9, .methodLink RX9 246 yX9_has, .instanceMethod yX9_has, .selects RX9 yX9_has yX9_has, .methodLink RX9 298 yX9_piece, .instanceMethod yX9_piece, .selects RX9 yX9_piece yX9_piece, .code yX9_opens cX9_opens 5 none, .code yX9_has cX9_has 3 (some .boolean), .fieldLink RX9 36 "RecordBenchModel" "isThere" "[Z", .code yX9_piece cX9_piece 14 none, .fieldLink RX9 252 "RecordBenchModel" "varint" "J", .fieldLink RX9 267 "RecordBenchModel" "isLong" "Z", .constantLong RX9 271 (30), .fieldLink RX9 257 "RecordBenchModel" "varintEnd" "I", .fieldLink RX9 81 "RecordBenchModel" "row" "[I", .methodLink RX9 281 yX9_isText, .static yX9_isText, .methodLink RX9 229 yX9_isOf, .static yX9_isOf, .methodLink RX9 265 yX9_varint, .instanceMethod yX9_varint, .selects RX9 yX9_varint yX9_varint, .code yX9_isText cX9_isText 4 (some .boolean), .code yX9_isOf cX9_isOf 3 (some .boolean), .constantLong RX9 219 (-2147483648), .constantLong RX9 221 (2147483647), .constantLong RX9 215 (-128), .constantLong RX9 217 (127), .code yX9_varint cX9_varint 6 (some .boolean), .constantLong RX9 255 (128)] : List Cond) ++ wsX90)
theorem gs_wq_X9_reads_wsX90 : GoodIn wq_X9_reads wsX90 := fun w h => ⟨List.mem_cons_of_mem _ (List.mem_append_right _ h), (gt_wsX90 w h).2⟩
set_option maxRecDepth 20000 in
theorem gq_X9_reads_X9_opens_294 : GoodIn wq_X9_reads (wsV RX9 294 RX9 yX9_opens wq_X9_opens) := goodIn_app (goodIn_r _ [22, 23, 24, 25] rfl rfl) (goodIn_ca (goodIn_r _ [32, 6, 4, 5, 7, 8] rfl rfl) gs_wq_X9_reads_wsX90)
set_option maxRecDepth 20000 in
theorem gq_X9_reads_X9_has_246 : GoodIn wq_X9_reads (wsV RX9 246 RX9 yX9_has wq_X9_has) := goodIn_app (goodIn_r _ [26, 27, 28, 25] rfl rfl) (goodIn_ca (goodIn_r _ [33, 34, 20] rfl rfl) gs_wq_X9_reads_wsX90)
set_option maxRecDepth 20000 in
theorem gq_X9_reads_X9_piece_298 : GoodIn wq_X9_reads (wsV RX9 298 RX9 yX9_piece wq_X9_piece) := goodIn_app (goodIn_r _ [29, 30, 31, 25] rfl rfl) (goodIn_ca (goodIn_r _ [35, 9, 11, 36, 37, 38, 39, 18, 14, 16, 20, 19, 40, 41, 42, 25, 43, 44, 26, 27, 28, 45, 46, 47, 48, 49, 50, 51, 52, 53, 33, 34, 54, 55] rfl rfl) gs_wq_X9_reads_wsX90)
set_option maxHeartbeats 4000000 in
set_option maxRecDepth 100000 in
theorem c_X9_reads (l : Launch) (dC : Nat → ClassId) (dI : Nat → Nat → Nat) (h0 : Nat) (ar : Nat → Nat) (ca : Nat → ClassId) (p0 : Int32) (p1 : Int32) (st st' : RS) (r : Int32) (hf : x9_reads p0 p1 st = some (r, st')) (sz : Nat) : Met l yX9_reads wq_X9_reads ({ frames := 2, cells := 0, slots := 0, locals := 66 }) (va_Pc [.ref h0, .int p0, .int p1] (Pr (dC, dI) (rT ca) [] (RW h0 ar ca st) sz)) (va_Qi (fun r' (_ : Unit) => r' = r) (Bq (dC, dI) (fun _ => RW h0 ar ca st') (fun _ => []) (va_A (RW h0 ar ca st) sz)) (va_A (RW h0 ar ca st) sz)) 0 0 (va_A (RW h0 ar ca st) sz) := by
  refine Met.ofW (cc := cX9_reads) (maxL := 7) (ret := (some .boolean)) (by decide) rfl ?_
  intro p e s m args below meth c s₁ B hml hv
  obtain ⟨rfl, hsz, hP, hK, hD0, hN, hZ, hR⟩ := hv
  have hx := B.exec
  have hb := B.bytes
  have hr := B.returns
  have hts := atoms_spec (ws := wq_X9_reads) B.pre
  have hown : s.vm.findClass RX9 = some m.cls := findClass_of_methodNamed B.named
  have iRX9 : ∀ w ∈ u_ws RX9 TX9 60, w ∈ wq_X9_reads := fun w h => List.mem_cons_of_mem _ (List.mem_append_right _ h)
  subst hsz
  have hp : Rp (dC, dI) h0 ar ca (va_A (RW h0 ar ca st) s.heap.size) s.heap st s.heap [] := ⟨hP, hD0.self, va_S.rf⟩
  generalize hAe : va_A (RW h0 ar ca st) s.heap.size = A at hp hZ ⊢
  have hA : ∀ q : Nat, s.heap.size ≤ q → A q := fun q h => by rw [← hAe]; exact Or.inr h
  have hl := lv_entry ([.ref h0, .int p0, .int p1]) (n := 7) (Nat.le_of_ble_eq_true rfl)
  rw [lg_entry_eq]
  generalize (lg_sl ([.ref h0, .int p0, .int p1]) ++ List.replicate (7 - (lg_sl ([.ref h0, .int p0, .int p1])).length) Slot.unset).toArray = ls at hl ⊢
  have hl : lv_has ls 7 [(0, .ref h0), (1, .int p0), (2, .int p1)] := hl
  refine W_lp (fun n25 (u : Int32 × RS) H locs ls => match u with | (l3, st) => x9_reads_25 n25 l3 st = some (r, st') ∧ Rp (dC, dI) h0 ar ca A s.heap st H locs ∧ lv_has ls 7 [(0, .ref h0), (3, .int l3)]) (fun (u : Int32 × RS) ls => match u with | (l3, st) => F0 m 25 ls []) ?_ ?_ (fun J25 => ?_)
  · intro u H locs ls hu
    obtain ⟨l3, st⟩ := u
    obtain ⟨hf, hp, hl⟩ := hu
    rw [x9_reads_25_z] at hf
    cases hf
  · intro n25 ih25 u H locs ls hu
    obtain ⟨l3, st⟩ := u
    obtain ⟨hf, hp, hl⟩ := hu
    show W p l e _ s m _ below meth c _ _ _ _ _ (F0 m 25 ls [])
    refine W_blk (fun (u : Int32 × Int32 × RS) H locs ls => match u with | (l3, l6, st) => x9_reads_264 (x9_reads_25 n25) l3 l6 st = some (r, st') ∧ Rp (dC, dI) h0 ar ca A s.heap st H locs ∧ lv_has ls 7 [(0, .ref h0), (3, .int l3), (6, .int l6)]) (fun (u : Int32 × Int32 × RS) ls => match u with | (l3, l6, st) => F0 m 264 ls []) ?_ (fun J264 => ?_)
    · intro u H locs ls hu
      obtain ⟨l3, l6, st⟩ := u
      obtain ⟨hf, hp, hl⟩ := hu
      show W p l e _ s m _ below meth c _ _ _ _ _ (F0 m 264 ls [])
      unfold x9_reads_264 at hf
      refine lv_aload_n hx hb dX9_reads_264 rfl (lv_at hl 0 rfl) ?_
      refine r_ga hx hb hts iRX9 hown hK hp 1 (by decide) (by decide) (hts (.fieldLink RX9 13 "RecordBenchModel" "kind" "[I") (by decide +kernel)) dX9_reads_265 ?_
      refine lv_iload hx hb dX9_reads_268 (lv_at hl 2 rfl) ?_
      obtain ⟨g_1, hf⟩ := gd_some hf
      refine r_ai (n := 248) hx hb hK hp 1 1 rfl rfl rfl g_1 dX9_reads_270 ?_
      refine lv_bipush (v := 6) hx hb dX9_reads_271 (by decide) ?_
      refine lv_icmp_eq (tgt := 279) hx hb dX9_reads_273 (by decide) (fun c_2 => ?_) (fun c_2 => ?_)
      · have hf := pif_t c_2 hf
        obtain ⟨v_3, ev_3, hf⟩ := nam_some hf
        refine lv_iinc (v := v_3) (lv' := [(3, .int v_3), (0, .ref h0), (6, .int l6)]) hx hb dX9_reads_279 hl (k := 1) rfl ev_3.symm (by decide) rfl (fun ls hl => ?_)
        refine lv_aload_n hx hb dX9_reads_282 rfl (lv_at hl 1 rfl) ?_
        refine lv_iload_n hx hb dX9_reads_283 rfl (lv_at hl 0 rfl) ?_
        refine lv_aload_n hx hb dX9_reads_284 rfl (lv_at hl 1 rfl) ?_
        refine r_ga hx hb hts iRX9 hown hK hp 3 (by decide) (by decide) (hts (.fieldLink RX9 20 "RecordBenchModel" "inner" "[I") (by decide +kernel)) dX9_reads_285 ?_
        refine lv_iload hx hb dX9_reads_288 (lv_at hl 2 rfl) ?_
        obtain ⟨g_4, hf⟩ := gd_some hf
        refine r_ai (n := 248) hx hb hK hp 3 3 rfl rfl rfl g_4 dX9_reads_290 ?_
        refine lv_aload_n hx hb dX9_reads_291 rfl (lv_at hl 1 rfl) ?_
        refine r_gi hx hb hts iRX9 hown hK hp 35 (by decide) rfl (hts (.fieldLink RX9 275 "RecordBenchModel" "from" "I") (by decide +kernel)) dX9_reads_292 ?_
        refine lv_aload_n hx hb dX9_reads_295 rfl (lv_at hl 1 rfl) ?_
        refine r_gi hx hb hts iRX9 hown hK hp 36 (by decide) rfl (hts (.fieldLink RX9 278 "RecordBenchModel" "to" "I") (by decide +kernel)) dX9_reads_296 ?_
        obtain ⟨st_5, hc_6, hf⟩ := bnv_some hf
        refine r_cv hp hA (va_runV (As := [.int v_3, .int (gF st 3 l6.toNatClampNeg), .int (gI st 35), .int (gI st 36)]) (rest := []) ⟨hx, hb, hml, hown, hts⟩ (c_X9_opens l dC dI h0 ar ca v_3 (gF st 3 l6.toNatClampNeg) (gI st 35) (gI st 36) _ _ hc_6 _) (cwV 4 hts gq_X9_reads_X9_opens_294 rfl rfl rfl (by decide +kernel) ⟨Nat.le_of_ble_eq_true rfl, Nat.le_of_ble_eq_true rfl⟩) ⟨Pr.blind _, va_recv hK hp.1 (ci := 11) (q0 := 0) rfl rfl, r_pre hp hK hN hZ hA⟩ rfl rfl hl.1 rfl (lv_room (Nat.le_of_ble_eq_true rfl)) dX9_reads_299 ⟨Nat.le_of_ble_eq_true rfl, Nat.le_of_ble_eq_true rfl⟩) (fun H locs hp => ?_)
        refine lv_goto (tgt := 25) hx hb dX9_reads_302 (by decide) ?_
        exact ih25 (v_3, st_5) _ _ _ ⟨hf, hp, (lv_sub hl [1, 0] rfl)⟩
      · have hf := pif_f c_2 hf
        refine lv_goto (tgt := 25) hx hb dX9_reads_276 (by decide) ?_
        exact ih25 (l3, st) _ _ _ ⟨hf, hp, (lv_sub hl [0, 1] rfl)⟩
    refine W_blk (fun (u : Int32 × Int32 × RS) H locs ls => match u with | (l3, l5, st) => x9_reads_188 (x9_reads_25 n25) l3 l5 st = some (r, st') ∧ Rp (dC, dI) h0 ar ca A s.heap st H locs ∧ lv_has ls 7 [(0, .ref h0), (3, .int l3), (5, .int l5)]) (fun (u : Int32 × Int32 × RS) ls => match u with | (l3, l5, st) => F0 m 188 ls []) ?_ (fun J188 => ?_)
    · intro u H locs ls hu
      obtain ⟨l3, l5, st⟩ := u
      obtain ⟨hf, hp, hl⟩ := hu
      show W p l e _ s m _ below meth c _ _ _ _ _ (F0 m 188 ls [])
      unfold x9_reads_188 at hf
      refine lv_aload_n hx hb dX9_reads_188 rfl (lv_at hl 0 rfl) ?_
      refine r_ga hx hb hts iRX9 hown hK hp 48 (by decide) (by decide) (hts (.fieldLink RX9 102 "RecordBenchModel" "pileAt" "[I") (by decide +kernel)) dX9_reads_189 ?_
      refine lv_iload_n hx hb dX9_reads_192 rfl (lv_at hl 1 rfl) ?_
      refine lv_aload_n hx hb dX9_reads_193 rfl (lv_at hl 0 rfl) ?_
      refine r_gi hx hb hts iRX9 hown hK hp 36 (by decide) rfl (hts (.fieldLink RX9 278 "RecordBenchModel" "to" "I") (by decide +kernel)) dX9_reads_194 ?_
      obtain ⟨g_8, hf⟩ := gd_some hf
      refine r_si (n := 9) hx hb hK hp 19 48 rfl rfl rfl g_8 dX9_reads_197 (fun H locs hp => ?_)
      obtain ⟨st_9, est_9, hf⟩ := nam_some hf
      rw [← est_9] at hp
      refine lv_aload_n hx hb dX9_reads_198 rfl (lv_at hl 0 rfl) ?_
      refine r_ga hx hb hts iRX9 hown hK hp 50 (by decide) (by decide) (hts (.fieldLink RX9 108 "RecordBenchModel" "pileLast" "[I") (by decide +kernel)) dX9_reads_199 ?_
      refine lv_iload_n hx hb dX9_reads_202 rfl (lv_at hl 1 rfl) ?_
      refine lv_aload_n hx hb dX9_reads_203 rfl (lv_at hl 0 rfl) ?_
      refine r_gi hx hb hts iRX9 hown hK hp 33 (by decide) rfl (hts (.fieldLink RX9 263 "RecordBenchModel" "number" "I") (by decide +kernel)) dX9_reads_204 ?_
      obtain ⟨g_10, hf⟩ := gd_some hf
      refine r_si (n := 9) hx hb hK hp 21 50 rfl rfl rfl g_10 dX9_reads_207 (fun H locs hp => ?_)
      obtain ⟨st_11, est_11, hf⟩ := nam_some hf
      rw [← est_11] at hp
      refine lv_aload_n hx hb dX9_reads_208 rfl (lv_at hl 0 rfl) ?_
      refine lv_iload hx hb dX9_reads_209 (lv_at hl 2 rfl) ?_
      refine lv_aload_n hx hb dX9_reads_211 rfl (lv_at hl 0 rfl) ?_
      refine r_gi hx hb hts iRX9 hown hK hp 33 (by decide) rfl (hts (.fieldLink RX9 263 "RecordBenchModel" "number" "I") (by decide +kernel)) dX9_reads_212 ?_
      obtain ⟨r_14, st_12, hc_13, hf⟩ := bnd_some hf
      refine r_ci hp hA (va_runV (As := [.int l5, .int (gI st_11 33)]) (rest := []) ⟨hx, hb, hml, hown, hts⟩ (c_X9_has l dC dI h0 ar ca l5 (gI st_11 33) _ _ _ hc_13 _) (cwV 2 hts gq_X9_reads_X9_has_246 rfl rfl rfl (by decide +kernel) ⟨Nat.le_of_ble_eq_true rfl, Nat.le_of_ble_eq_true rfl⟩) ⟨Pr.blind _, va_recv hK hp.1 (ci := 11) (q0 := 0) rfl rfl, r_pre hp hK hN hZ hA⟩ rfl rfl hl.1 rfl (lv_room (Nat.le_of_ble_eq_true rfl)) dX9_reads_215 ⟨Nat.le_of_ble_eq_true rfl, Nat.le_of_ble_eq_true rfl⟩) (fun H locs hp => ?_)
      refine lv_if_ne (tgt := 224) hx hb dX9_reads_218 (by decide) (fun c_15 => ?_) (fun c_15 => ?_)
      · have hf := pif_f c_15 hf
        refine lv_bipush (v := 31) hx hb dX9_reads_224 (by decide) ?_
        refine lv_iload hx hb dX9_reads_226 (lv_at hl 2 rfl) ?_
        refine lv_imul hx hb dX9_reads_228 ?_
        refine lv_aload_n hx hb dX9_reads_229 rfl (lv_at hl 0 rfl) ?_
        refine r_gi hx hb hts iRX9 hown hK hp 33 (by decide) rfl (hts (.fieldLink RX9 263 "RecordBenchModel" "number" "I") (by decide +kernel)) dX9_reads_230 ?_
        refine lv_iadd hx hb dX9_reads_233 ?_
        obtain ⟨v_16, ev_16, hf⟩ := nam_some hf
        refine W_toi (y := v_16) ev_16.symm ?_
        refine lv_istore (lv' := [(6, .int v_16), (0, .ref h0), (3, .int l3), (5, .int l5)]) hx hb dX9_reads_234 hl (by decide) rfl (fun ls hl => ?_)
        refine lv_aload_n hx hb dX9_reads_236 rfl (lv_at hl 1 rfl) ?_
        refine r_ga hx hb hts iRX9 hown hK hp 2 (by decide) (by decide) (hts (.fieldLink RX9 17 "RecordBenchModel" "group" "[I") (by decide +kernel)) dX9_reads_237 ?_
        refine lv_iload hx hb dX9_reads_240 (lv_at hl 0 rfl) ?_
        obtain ⟨g_17, hf⟩ := gd_some hf
        refine r_ai (n := 248) hx hb hK hp 2 2 rfl rfl rfl g_17 dX9_reads_242 ?_
        refine lv_if_le (tgt := 264) hx hb dX9_reads_243 (by decide) (fun c_18 => ?_) (fun c_18 => ?_)
        · have hf := pif_t c_18 hf
          exact J264 (l3, v_16, st_12) _ _ _ ⟨hf, hp, (lv_sub hl [1, 2, 0] rfl)⟩
        · have hf := pif_f c_18 hf
          refine lv_aload_n hx hb dX9_reads_246 rfl (lv_at hl 1 rfl) ?_
          refine r_ga hx hb hts iRX9 hown hK hp 51 (by decide) (by decide) (hts (.fieldLink RX9 111 "RecordBenchModel" "pileGroups" "[I") (by decide +kernel)) dX9_reads_247 ?_
          refine lv_iload_n hx hb dX9_reads_250 rfl (lv_at hl 2 rfl) ?_
          refine lv_dup2_11 hx hb dX9_reads_251 rfl rfl ?_
          obtain ⟨g_19, hf⟩ := gd_some hf
          refine r_ai (n := 9) hx hb hK hp 22 51 rfl rfl rfl g_19 dX9_reads_252 ?_
          refine lv_iconst (v := 1) hx hb dX9_reads_253 (by decide) ?_
          refine lv_aload_n hx hb dX9_reads_254 rfl (lv_at hl 1 rfl) ?_
          refine r_ga hx hb hts iRX9 hown hK hp 2 (by decide) (by decide) (hts (.fieldLink RX9 17 "RecordBenchModel" "group" "[I") (by decide +kernel)) dX9_reads_255 ?_
          refine lv_iload hx hb dX9_reads_258 (lv_at hl 0 rfl) ?_
          obtain ⟨g_20, hf⟩ := gd_some hf
          refine r_ai (n := 248) hx hb hK hp 2 2 rfl rfl rfl g_20 dX9_reads_260 ?_
          refine lv_ishl hx hb dX9_reads_261 ?_
          refine lv_ior hx hb dX9_reads_262 ?_
          obtain ⟨g_21, hf⟩ := gd_some hf
          refine r_si (n := 9) hx hb hK hp 22 51 rfl rfl rfl g_21 dX9_reads_263 (fun H locs hp => ?_)
          obtain ⟨st_22, est_22, hf⟩ := nam_some hf
          rw [← est_22] at hp
          exact J264 (l3, v_16, st_22) _ _ _ ⟨hf, hp, (lv_sub hl [1, 2, 0] rfl)⟩
      · have hf := pif_t c_15 hf
        refine lv_goto (tgt := 25) hx hb dX9_reads_221 (by decide) ?_
        exact ih25 (l3, st_12) _ _ _ ⟨hf, hp, (lv_sub hl [0, 1] rfl)⟩
    rw [x9_reads_25_s] at hf
    refine lv_iload_n hx hb dX9_reads_25 rfl (lv_at hl 1 rfl) ?_
    refine lv_if_lt (tgt := 305) hx hb dX9_reads_26 (by decide) (fun c_23 => ?_) (fun c_23 => ?_)
    · have hf := pif_t c_23 hf
      refine lv_iconst (v := 1) hx hb dX9_reads_305 (by decide) ?_
      obtain ⟨e1, e2⟩ := pr_some hf
      exact W.zret (v := 1) hx hb hr rfl (fun t ht hW => ⟨⟨1, (), rfl, e1, Rp.end e2 hp hK ht hW⟩, hp.2.2.F ht⟩) hp.2.2.2.2 dX9_reads_306
    · have hf := pif_f c_23 hf
      refine lv_aload_n hx hb dX9_reads_29 rfl (lv_at hl 0 rfl) ?_
      refine r_ga hx hb hts iRX9 hown hK hp 48 (by decide) (by decide) (hts (.fieldLink RX9 102 "RecordBenchModel" "pileAt" "[I") (by decide +kernel)) dX9_reads_30 ?_
      refine lv_iload_n hx hb dX9_reads_33 rfl (lv_at hl 1 rfl) ?_
      obtain ⟨g_24, hf⟩ := gd_some hf
      refine r_ai (n := 9) hx hb hK hp 19 48 rfl rfl rfl g_24 dX9_reads_34 ?_
      obtain ⟨v_25, ev_25, hf⟩ := nam_some hf
      refine W_toi (y := v_25) ev_25.symm ?_
      refine lv_istore (lv' := [(4, .int v_25), (0, .ref h0), (3, .int l3)]) hx hb dX9_reads_35 hl (by decide) rfl (fun ls hl => ?_)
      refine lv_iload hx hb dX9_reads_37 (lv_at hl 0 rfl) ?_
      refine lv_aload_n hx hb dX9_reads_39 rfl (lv_at hl 1 rfl) ?_
      refine r_ga hx hb hts iRX9 hown hK hp 49 (by decide) (by decide) (hts (.fieldLink RX9 105 "RecordBenchModel" "pileEnd" "[I") (by decide +kernel)) dX9_reads_40 ?_
      refine lv_iload_n hx hb dX9_reads_43 rfl (lv_at hl 2 rfl) ?_
      obtain ⟨g_26, hf⟩ := gd_some hf
      refine r_ai (n := 9) hx hb hK hp 20 49 rfl rfl rfl g_26 dX9_reads_44 ?_
      refine lv_icmp_ne (tgt := 54) hx hb dX9_reads_45 (by decide) (fun c_27 => ?_) (fun c_27 => ?_)
      · have hf := pif_f c_27 hf
        refine lv_aload_n hx hb dX9_reads_54 rfl (lv_at hl 1 rfl) ?_
        refine r_ga hx hb hts iRX9 hown hK hp 47 (by decide) (by decide) (hts (.fieldLink RX9 99 "RecordBenchModel" "pileMake" "[I") (by decide +kernel)) dX9_reads_55 ?_
        refine lv_iload_n hx hb dX9_reads_58 rfl (lv_at hl 2 rfl) ?_
        obtain ⟨g_28, hf⟩ := gd_some hf
        refine r_ai (n := 9) hx hb hK hp 18 47 rfl rfl rfl g_28 dX9_reads_59 ?_
        obtain ⟨v_29, ev_29, hf⟩ := nam_some hf
        refine W_toi (y := v_29) ev_29.symm ?_
        refine lv_istore (lv' := [(5, .int v_29), (4, .int v_25), (0, .ref h0), (3, .int l3)]) hx hb dX9_reads_60 hl (by decide) rfl (fun ls hl => ?_)
        refine lv_aload_n hx hb dX9_reads_62 rfl (lv_at hl 2 rfl) ?_
        refine lv_iload hx hb dX9_reads_63 (lv_at hl 1 rfl) ?_
        refine lv_aload_n hx hb dX9_reads_65 rfl (lv_at hl 2 rfl) ?_
        refine r_ga hx hb hts iRX9 hown hK hp 49 (by decide) (by decide) (hts (.fieldLink RX9 105 "RecordBenchModel" "pileEnd" "[I") (by decide +kernel)) dX9_reads_66 ?_
        refine lv_iload_n hx hb dX9_reads_69 rfl (lv_at hl 3 rfl) ?_
        obtain ⟨g_30, hf⟩ := gd_some hf
        refine r_ai (n := 9) hx hb hK hp 20 49 rfl rfl rfl g_30 dX9_reads_70 ?_
        refine lv_iload hx hb dX9_reads_71 (lv_at hl 0 rfl) ?_
        refine lv_aload_n hx hb dX9_reads_73 rfl (lv_at hl 2 rfl) ?_
        refine r_ga hx hb hts iRX9 hown hK hp 50 (by decide) (by decide) (hts (.fieldLink RX9 108 "RecordBenchModel" "pileLast" "[I") (by decide +kernel)) dX9_reads_74 ?_
        refine lv_iload_n hx hb dX9_reads_77 rfl (lv_at hl 3 rfl) ?_
        obtain ⟨g_31, hf⟩ := gd_some hf
        refine r_ai (n := 9) hx hb hK hp 21 50 rfl rfl rfl g_31 dX9_reads_78 ?_
        refine lv_aload_n hx hb dX9_reads_79 rfl (lv_at hl 2 rfl) ?_
        refine r_ga hx hb hts iRX9 hown hK hp 51 (by decide) (by decide) (hts (.fieldLink RX9 111 "RecordBenchModel" "pileGroups" "[I") (by decide +kernel)) dX9_reads_80 ?_
        refine lv_iload_n hx hb dX9_reads_83 rfl (lv_at hl 3 rfl) ?_
        obtain ⟨g_32, hf⟩ := gd_some hf
        refine r_ai (n := 9) hx hb hK hp 22 51 rfl rfl rfl g_32 dX9_reads_84 ?_
        obtain ⟨st_33, hc_34, hf⟩ := bnv_some hf
        refine r_cv hp hA (va_runV (As := [.int v_25, .int (gF st 49 l3.toNatClampNeg), .int v_29, .int (gF st 50 l3.toNatClampNeg), .int (gF st 51 l3.toNatClampNeg)]) (rest := []) ⟨hx, hb, hml, hown, hts⟩ (c_X9_piece l dC dI h0 ar ca v_25 (gF st 49 l3.toNatClampNeg) v_29 (gF st 50 l3.toNatClampNeg) (gF st 51 l3.toNatClampNeg) _ _ hc_34 _) (cwV 5 hts gq_X9_reads_X9_piece_298 rfl rfl rfl (by decide +kernel) ⟨Nat.le_of_ble_eq_true rfl, Nat.le_of_ble_eq_true rfl⟩) ⟨Pr.blind _, va_recv hK hp.1 (ci := 11) (q0 := 0) rfl rfl, r_pre hp hK hN hZ hA⟩ rfl rfl hl.1 rfl (lv_room (Nat.le_of_ble_eq_true rfl)) dX9_reads_85 ⟨Nat.le_of_ble_eq_true rfl, Nat.le_of_ble_eq_true rfl⟩) (fun H locs hp => ?_)
        refine lv_aload_n hx hb dX9_reads_88 rfl (lv_at hl 2 rfl) ?_
        refine r_gi hx hb hts iRX9 hown hK hp 38 (by decide) rfl (hts (.fieldLink RX9 260 "RecordBenchModel" "pieceFault" "I") (by decide +kernel)) dX9_reads_89 ?_
        refine lv_if_eq (tgt := 111) hx hb dX9_reads_92 (by decide) (fun c_36 => ?_) (fun c_36 => ?_)
        · have hf := pif_t c_36 hf
          refine lv_iload_n hx hb dX9_reads_111 rfl (lv_at hl 3 rfl) ?_
          refine lv_if_ne (tgt := 188) hx hb dX9_reads_112 (by decide) (fun c_37 => ?_) (fun c_37 => ?_)
          · have hf := pif_f c_37 hf
            exact J188 (l3, v_29, st_33) _ _ _ ⟨hf, hp, (lv_sub hl [2, 3, 0] rfl)⟩
          · have hf := pif_t c_37 hf
            refine lv_aload_n hx hb dX9_reads_115 rfl (lv_at hl 2 rfl) ?_
            refine r_ga hx hb hts iRX9 hown hK hp 42 (by decide) (by decide) (hts (.fieldLink RX9 84 "RecordBenchModel" "pieceNumber" "[I") (by decide +kernel)) dX9_reads_116 ?_
            refine lv_aload_n hx hb dX9_reads_119 rfl (lv_at hl 2 rfl) ?_
            refine r_gi hx hb hts iRX9 hown hK hp 41 (by decide) rfl (hts (.fieldLink RX9 291 "RecordBenchModel" "pieces" "I") (by decide +kernel)) dX9_reads_120 ?_
            refine lv_aload_n hx hb dX9_reads_123 rfl (lv_at hl 2 rfl) ?_
            refine r_gi hx hb hts iRX9 hown hK hp 33 (by decide) rfl (hts (.fieldLink RX9 263 "RecordBenchModel" "number" "I") (by decide +kernel)) dX9_reads_124 ?_
            obtain ⟨g_38, hf⟩ := gd_some hf
            refine r_si (n := 64) hx hb hK hp 13 42 rfl rfl rfl g_38 dX9_reads_127 (fun H locs hp => ?_)
            obtain ⟨st_39, est_39, hf⟩ := nam_some hf
            rw [← est_39] at hp
            refine lv_aload_n hx hb dX9_reads_128 rfl (lv_at hl 2 rfl) ?_
            refine r_ga hx hb hts iRX9 hown hK hp 43 (by decide) (by decide) (hts (.fieldLink RX9 87 "RecordBenchModel" "pieceBegin" "[I") (by decide +kernel)) dX9_reads_129 ?_
            refine lv_aload_n hx hb dX9_reads_132 rfl (lv_at hl 2 rfl) ?_
            refine r_gi hx hb hts iRX9 hown hK hp 41 (by decide) rfl (hts (.fieldLink RX9 291 "RecordBenchModel" "pieces" "I") (by decide +kernel)) dX9_reads_133 ?_
            refine lv_iload hx hb dX9_reads_136 (lv_at hl 1 rfl) ?_
            obtain ⟨g_40, hf⟩ := gd_some hf
            refine r_si (n := 64) hx hb hK hp 14 43 rfl rfl rfl g_40 dX9_reads_138 (fun H locs hp => ?_)
            obtain ⟨st_41, est_41, hf⟩ := nam_some hf
            rw [← est_41] at hp
            refine lv_aload_n hx hb dX9_reads_139 rfl (lv_at hl 2 rfl) ?_
            refine r_ga hx hb hts iRX9 hown hK hp 44 (by decide) (by decide) (hts (.fieldLink RX9 90 "RecordBenchModel" "pieceFrom" "[I") (by decide +kernel)) dX9_reads_140 ?_
            refine lv_aload_n hx hb dX9_reads_143 rfl (lv_at hl 2 rfl) ?_
            refine r_gi hx hb hts iRX9 hown hK hp 41 (by decide) rfl (hts (.fieldLink RX9 291 "RecordBenchModel" "pieces" "I") (by decide +kernel)) dX9_reads_144 ?_
            refine lv_aload_n hx hb dX9_reads_147 rfl (lv_at hl 2 rfl) ?_
            refine r_gi hx hb hts iRX9 hown hK hp 35 (by decide) rfl (hts (.fieldLink RX9 275 "RecordBenchModel" "from" "I") (by decide +kernel)) dX9_reads_148 ?_
            obtain ⟨g_42, hf⟩ := gd_some hf
            refine r_si (n := 64) hx hb hK hp 15 44 rfl rfl rfl g_42 dX9_reads_151 (fun H locs hp => ?_)
            obtain ⟨st_43, est_43, hf⟩ := nam_some hf
            rw [← est_43] at hp
            refine lv_aload_n hx hb dX9_reads_152 rfl (lv_at hl 2 rfl) ?_
            refine r_ga hx hb hts iRX9 hown hK hp 45 (by decide) (by decide) (hts (.fieldLink RX9 93 "RecordBenchModel" "pieceTo" "[I") (by decide +kernel)) dX9_reads_153 ?_
            refine lv_aload_n hx hb dX9_reads_156 rfl (lv_at hl 2 rfl) ?_
            refine r_gi hx hb hts iRX9 hown hK hp 41 (by decide) rfl (hts (.fieldLink RX9 291 "RecordBenchModel" "pieces" "I") (by decide +kernel)) dX9_reads_157 ?_
            refine lv_aload_n hx hb dX9_reads_160 rfl (lv_at hl 2 rfl) ?_
            refine r_gi hx hb hts iRX9 hown hK hp 36 (by decide) rfl (hts (.fieldLink RX9 278 "RecordBenchModel" "to" "I") (by decide +kernel)) dX9_reads_161 ?_
            obtain ⟨g_44, hf⟩ := gd_some hf
            refine r_si (n := 64) hx hb hK hp 16 45 rfl rfl rfl g_44 dX9_reads_164 (fun H locs hp => ?_)
            obtain ⟨st_45, est_45, hf⟩ := nam_some hf
            rw [← est_45] at hp
            refine lv_aload_n hx hb dX9_reads_165 rfl (lv_at hl 2 rfl) ?_
            refine r_ga hx hb hts iRX9 hown hK hp 46 (by decide) (by decide) (hts (.fieldLink RX9 96 "RecordBenchModel" "pieceValue" "[J") (by decide +kernel)) dX9_reads_166 ?_
            refine lv_aload_n hx hb dX9_reads_169 rfl (lv_at hl 2 rfl) ?_
            refine r_gi hx hb hts iRX9 hown hK hp 41 (by decide) rfl (hts (.fieldLink RX9 291 "RecordBenchModel" "pieces" "I") (by decide +kernel)) dX9_reads_170 ?_
            refine lv_aload_n hx hb dX9_reads_173 rfl (lv_at hl 2 rfl) ?_
            refine r_gj hx hb hts iRX9 hown hK hp 37 (by decide) rfl (hts (.fieldLink RX9 273 "RecordBenchModel" "value" "J") (by decide +kernel)) dX9_reads_174 ?_
            obtain ⟨g_46, hf⟩ := gd_some hf
            refine r_sj (n := 64) hx hb hK hp 17 46 rfl rfl rfl g_46 dX9_reads_177 (fun H locs hp => ?_)
            obtain ⟨st_47, est_47, hf⟩ := nam_some hf
            rw [← est_47] at hp
            refine lv_aload_n hx hb dX9_reads_178 rfl (lv_at hl 2 rfl) ?_
            refine lv_dup hx hb dX9_reads_179 rfl ?_
            refine r_gi hx hb hts iRX9 hown hK hp 41 (by decide) rfl (hts (.fieldLink RX9 291 "RecordBenchModel" "pieces" "I") (by decide +kernel)) dX9_reads_180 ?_
            refine lv_iconst (v := 1) hx hb dX9_reads_183 (by decide) ?_
            refine lv_iadd hx hb dX9_reads_184 ?_
            refine r_pi (v := (gI st_47 41) + 1) (ty := .int) hx hb hts iRX9 hown hK hp 41 (by decide) rfl (hts (.fieldLink RX9 291 "RecordBenchModel" "pieces" "I") (by decide +kernel)) rfl (by decide +kernel) rfl rfl dX9_reads_185 (fun H locs hp => ?_)
            obtain ⟨st_48, est_48, hf⟩ := nam_some hf
            rw [← est_48] at hp
            exact J188 (l3, v_29, st_48) _ _ _ ⟨hf, hp, (lv_sub hl [2, 3, 0] rfl)⟩
        · have hf := pif_f c_36 hf
          refine lv_aload_n hx hb dX9_reads_95 rfl (lv_at hl 2 rfl) ?_
          refine lv_aload_n hx hb dX9_reads_96 rfl (lv_at hl 2 rfl) ?_
          refine r_gi hx hb hts iRX9 hown hK hp 38 (by decide) rfl (hts (.fieldLink RX9 260 "RecordBenchModel" "pieceFault" "I") (by decide +kernel)) dX9_reads_97 ?_
          refine r_pi (v := gI st_33 38) (ty := .int) hx hb hts iRX9 hown hK hp 39 (by decide) rfl (hts (.fieldLink RX9 285 "RecordBenchModel" "readFault" "I") (by decide +kernel)) rfl (by decide +kernel) rfl rfl dX9_reads_100 (fun H locs hp => ?_)
          obtain ⟨st_49, est_49, hf⟩ := nam_some hf
          rw [← est_49] at hp
          refine lv_aload_n hx hb dX9_reads_103 rfl (lv_at hl 2 rfl) ?_
          refine lv_iload hx hb dX9_reads_104 (lv_at hl 1 rfl) ?_
          refine r_pi (v := v_25) (ty := .int) hx hb hts iRX9 hown hK hp 40 (by decide) rfl (hts (.fieldLink RX9 288 "RecordBenchModel" "readPlace" "I") (by decide +kernel)) rfl (by decide +kernel) rfl rfl dX9_reads_106 (fun H locs hp => ?_)
          obtain ⟨st_50, est_50, hf⟩ := nam_some hf
          rw [← est_50] at hp
          refine lv_iconst (v := 0) hx hb dX9_reads_109 (by decide) ?_
          obtain ⟨e1, e2⟩ := pr_some hf
          exact W.zret (v := 0) hx hb hr rfl (fun t ht hW => ⟨⟨0, (), rfl, e1, Rp.end e2 hp hK ht hW⟩, hp.2.2.F ht⟩) hp.2.2.2.2 dX9_reads_110
      · have hf := pif_t c_27 hf
        obtain ⟨v_51, ev_51, hf⟩ := nam_some hf
        refine lv_iinc (v := v_51) (lv' := [(3, .int v_51), (4, .int v_25), (0, .ref h0)]) hx hb dX9_reads_48 hl (k := 2) rfl ev_51.symm (by decide) rfl (fun ls hl => ?_)
        refine lv_goto (tgt := 25) hx hb dX9_reads_51 (by decide) ?_
        exact ih25 (v_51, st) _ _ _ ⟨hf, hp, (lv_sub hl [2, 0] rfl)⟩
  unfold x9_reads at hf
  refine lv_aload_n hx hb dX9_reads_0 rfl (lv_at hl 0 rfl) ?_
  refine lv_iconst (v := 0) hx hb dX9_reads_1 (by decide) ?_
  refine r_pi (v := 0) (ty := .int) hx hb hts iRX9 hown hK hp 39 (by decide) rfl (hts (.fieldLink RX9 285 "RecordBenchModel" "readFault" "I") (by decide +kernel)) rfl (by decide +kernel) rfl rfl dX9_reads_2 (fun H locs hp => ?_)
  obtain ⟨st_52, est_52, hf⟩ := nam_some hf
  rw [← est_52] at hp
  refine lv_aload_n hx hb dX9_reads_5 rfl (lv_at hl 0 rfl) ?_
  refine lv_iconst (v := (-1)) hx hb dX9_reads_6 (by decide) ?_
  refine r_pi (v := (-1)) (ty := .int) hx hb hts iRX9 hown hK hp 40 (by decide) rfl (hts (.fieldLink RX9 288 "RecordBenchModel" "readPlace" "I") (by decide +kernel)) rfl (by decide +kernel) rfl rfl dX9_reads_7 (fun H locs hp => ?_)
  obtain ⟨st_53, est_53, hf⟩ := nam_some hf
  rw [← est_53] at hp
  refine lv_aload_n hx hb dX9_reads_10 rfl (lv_at hl 0 rfl) ?_
  refine lv_iconst (v := 0) hx hb dX9_reads_11 (by decide) ?_
  refine r_pi (v := 0) (ty := .int) hx hb hts iRX9 hown hK hp 41 (by decide) rfl (hts (.fieldLink RX9 291 "RecordBenchModel" "pieces" "I") (by decide +kernel)) rfl (by decide +kernel) rfl rfl dX9_reads_12 (fun H locs hp => ?_)
  obtain ⟨st_54, est_54, hf⟩ := nam_some hf
  rw [← est_54] at hp
  refine lv_iconst (v := 0) hx hb dX9_reads_15 (by decide) ?_
  refine lv_istore_n (lv' := [(3, .int 0), (0, .ref h0), (1, .int p0), (2, .int p1)]) hx hb dX9_reads_16 rfl hl (by decide) rfl (fun ls hl => ?_)
  refine lv_aload_n hx hb dX9_reads_17 rfl (lv_at hl 1 rfl) ?_
  refine lv_iconst (v := 0) hx hb dX9_reads_18 (by decide) ?_
  refine lv_iload_n hx hb dX9_reads_19 rfl (lv_at hl 3 rfl) ?_
  refine lv_iconst (v := 0) hx hb dX9_reads_20 (by decide) ?_
  refine lv_iload_n hx hb dX9_reads_21 rfl (lv_at hl 2 rfl) ?_
  obtain ⟨st_55, hc_56, hf⟩ := bnv_some hf
  refine r_cv hp hA (va_runV (As := [.int 0, .int p1, .int 0, .int p0]) (rest := []) ⟨hx, hb, hml, hown, hts⟩ (c_X9_opens l dC dI h0 ar ca 0 p1 0 p0 _ _ hc_56 _) (cwV 4 hts gq_X9_reads_X9_opens_294 rfl rfl rfl (by decide +kernel) ⟨Nat.le_of_ble_eq_true rfl, Nat.le_of_ble_eq_true rfl⟩) ⟨Pr.blind _, va_recv hK hp.1 (ci := 11) (q0 := 0) rfl rfl, r_pre hp hK hN hZ hA⟩ rfl rfl hl.1 rfl (lv_room (Nat.le_of_ble_eq_true rfl)) dX9_reads_22 ⟨Nat.le_of_ble_eq_true rfl, Nat.le_of_ble_eq_true rfl⟩) (fun H locs hp => ?_)
  exact J25 fuel (0, st_55) _ _ _ ⟨hf, hp, (lv_sub hl [1, 0] rfl)⟩
noncomputable def x9_isRead (p0 : Int32) (p1 : Int32) (st : RS) : Option (Int32 × RS) := bnv (x9_loads p0 st) (fun st_1 => gd (vp_in p0 4) (bnd (x9_reads (gF st_1 29 p0.toNatClampNeg) p1 st_1) (fun r_7 st_5 => gd (narrow .boolean (.int r_7) = .int r_7) (some (r_7, st_5)))))
def wq_X9_isRead : List Cond := .code yX9_isRead cX9_isRead 3 (some .boolean) :: (([.fieldLink RX9 78 "RecordBenchModel" "long0" "[I", .methodLink RX9 302 yX9_loads, .instanceMethod yX9_loads, .selects RX9 yX9_loads yX9_loads, .initialized RX9, .methodLink RX9 305 yX9_reads, .instanceMethod yX9_reads, .selects RX9 yX9_reads yX9_reads, .code yX9_loads cX9_loads 3 none, .fieldLink RX9 81 "RecordBenchModel" "row" "[I", .fieldLink RX9 75 "RecordBenchModel" "bytes" "[I", .code yX9_reads cX9_reads 7 (some .boolean), .fieldLink RX9 285 "RecordBenchModel" "readFault" "I", .fieldLink RX9 288 "RecordBenchModel" "readPlace" "I", .fieldLink RX9 291 "RecordBenchModel" "pieces" "I", .fieldLink RX9 102 "RecordBenchModel" "pileAt" "[I", .fieldLink RX9 105 "RecordBenchModel" "pileEnd" "[I", .fieldLink RX9 99 "RecordBenchModel" "pileMake" "[I", .fieldLink RX9 108 "RecordBenchModel" "pileLast" "[I", .fieldLink RX9 111 "RecordBenchModel" "pileGroups" "[I", .fieldLink RX9 260 "RecordBenchModel" "pieceFault" "I", .fieldLink RX9 84 "RecordBenchModel" "pieceNumber" "[I", .fieldLink RX9 263 "RecordBenchModel" "number" "I", .fieldLink RX9 87 "RecordBenchModel" "pieceBegin" "[I", .fieldLink RX9 90 "RecordBenchModel" "pieceFrom" "[I", .fieldLink RX9 275 "RecordBenchModel" "from" "I", .fieldLink RX9 93 "RecordBenchModel" "pieceTo" "[I", .fieldLink RX9 278 "RecordBenchModel" "to" "I", .fieldLink RX9 96 "RecordBenchModel" "pieceValue" "[J", .fieldLink RX9 273 "RecordBenchModel" "value" "J", .fieldLink RX9 17 "RecordBenchModel" "group" "[I", .fieldLink RX9 13 "RecordBenchModel" "kind" "[I", .fieldLink RX9 20 "RecordBenchModel" "inner" "[I", .methodLink RX9 294 yX9_opens, .instanceMethod yX9_opens, .selects RX9 yX9_opens yX9_opens, .methodLink RX9 246 yX9_has, .instanceMethod yX9_has, .selects RX9 yX9_has yX9_has, .methodLink RX9 298 yX9_piece, .instanceMethod yX9_piece, .selects RX9 yX9_piece yX9_piece, .code yX9_opens cX9_opens 5 none, .code yX9_has cX9_has 3 (some .boolean), .fieldLink RX9 36 "RecordBenchModel" "isThere" "[Z", .code yX9_piece cX9_piece 14 none, .fieldLink RX9 252 "RecordBenchModel" "varint" "J", .fieldLink RX9 267 "RecordBenchModel" "isLong" "Z", .constantLong RX9 271 (30), .fieldLink RX9 257 "RecordBenchModel" "varintEnd" "I", .methodLink RX9 281 yX9_isText, .static yX9_isText, .methodLink RX9 229 yX9_isOf, .static yX9_isOf, .methodLink RX9 265 yX9_varint, .instanceMethod yX9_varint, .selects RX9 yX9_varint yX9_varint, .code yX9_isText cX9_isText 4 (some .boolean), .code yX9_isOf cX9_isOf 3 (some .boolean), .constantLong RX9 219 (-2147483648), .constantLong RX9 221 (2147483647), .constantLong RX9 215 (-128), .constantLong RX9 217 (127), .code yX9_varint cX9_varint 6 (some .boolean), .constantLong RX9 255 (128)] : List Cond) ++ wsX90)
theorem gs_wq_X9_isRead_wsX90 : GoodIn wq_X9_isRead wsX90 := fun w h => ⟨List.mem_cons_of_mem _ (List.mem_append_right _ h), (gt_wsX90 w h).2⟩
set_option maxRecDepth 20000 in
theorem gq_X9_isRead_X9_loads_302 : GoodIn wq_X9_isRead (wsV RX9 302 RX9 yX9_loads wq_X9_loads) := goodIn_app (goodIn_r _ [2, 3, 4, 5] rfl rfl) (goodIn_ca (goodIn_r _ [9, 1, 10, 11] rfl rfl) gs_wq_X9_isRead_wsX90)
set_option maxRecDepth 20000 in
theorem gq_X9_isRead_X9_reads_305 : GoodIn wq_X9_isRead (wsV RX9 305 RX9 yX9_reads wq_X9_reads) := goodIn_app (goodIn_r _ [6, 7, 8, 5] rfl rfl) (goodIn_ca (goodIn_r _ [12, 13, 14, 15, 16, 17, 18, 19, 20, 21, 22, 23, 24, 25, 26, 27, 28, 29, 30, 31, 32, 33, 34, 35, 36, 5, 37, 38, 39, 40, 41, 42, 43, 44, 45, 46, 47, 48, 49, 50, 10, 51, 52, 53, 54, 55, 56, 57, 58, 59, 60, 61, 62, 63, 64, 65] rfl rfl) gs_wq_X9_isRead_wsX90)
set_option maxHeartbeats 4000000 in
set_option maxRecDepth 100000 in
theorem c_X9_isRead (l : Launch) (dC : Nat → ClassId) (dI : Nat → Nat → Nat) (h0 : Nat) (ar : Nat → Nat) (ca : Nat → ClassId) (p0 : Int32) (p1 : Int32) (st st' : RS) (r : Int32) (hf : x9_isRead p0 p1 st = some (r, st')) (sz : Nat) : Met l yX9_isRead wq_X9_isRead ({ frames := 3, cells := 0, slots := 0, locals := 96 }) (va_Pc [.ref h0, .int p0, .int p1] (Pr (dC, dI) (rT ca) [] (RW h0 ar ca st) sz)) (va_Qi (fun r' (_ : Unit) => r' = r) (Bq (dC, dI) (fun _ => RW h0 ar ca st') (fun _ => []) (va_A (RW h0 ar ca st) sz)) (va_A (RW h0 ar ca st) sz)) 0 0 (va_A (RW h0 ar ca st) sz) := by
  refine Met.ofW (cc := cX9_isRead) (maxL := 3) (ret := (some .boolean)) (by decide) rfl ?_
  intro p e s m args below meth c s₁ B hml hv
  obtain ⟨rfl, hsz, hP, hK, hD0, hN, hZ, hR⟩ := hv
  have hx := B.exec
  have hb := B.bytes
  have hr := B.returns
  have hts := atoms_spec (ws := wq_X9_isRead) B.pre
  have hown : s.vm.findClass RX9 = some m.cls := findClass_of_methodNamed B.named
  have iRX9 : ∀ w ∈ u_ws RX9 TX9 60, w ∈ wq_X9_isRead := fun w h => List.mem_cons_of_mem _ (List.mem_append_right _ h)
  subst hsz
  have hp : Rp (dC, dI) h0 ar ca (va_A (RW h0 ar ca st) s.heap.size) s.heap st s.heap [] := ⟨hP, hD0.self, va_S.rf⟩
  generalize hAe : va_A (RW h0 ar ca st) s.heap.size = A at hp hZ ⊢
  have hA : ∀ q : Nat, s.heap.size ≤ q → A q := fun q h => by rw [← hAe]; exact Or.inr h
  have hl := lv_entry ([.ref h0, .int p0, .int p1]) (n := 3) (Nat.le_of_ble_eq_true rfl)
  rw [lg_entry_eq]
  generalize (lg_sl ([.ref h0, .int p0, .int p1]) ++ List.replicate (3 - (lg_sl ([.ref h0, .int p0, .int p1])).length) Slot.unset).toArray = ls at hl ⊢
  have hl : lv_has ls 3 [(0, .ref h0), (1, .int p0), (2, .int p1)] := hl
  unfold x9_isRead at hf
  refine lv_aload_n hx hb dX9_isRead_0 rfl (lv_at hl 0 rfl) ?_
  refine lv_iload_n hx hb dX9_isRead_1 rfl (lv_at hl 1 rfl) ?_
  obtain ⟨st_1, hc_2, hf⟩ := bnv_some hf
  refine r_cv hp hA (va_runV (As := [.int p0]) (rest := []) ⟨hx, hb, hml, hown, hts⟩ (c_X9_loads l dC dI h0 ar ca p0 _ _ hc_2 _) (cwV 1 hts gq_X9_isRead_X9_loads_302 rfl rfl rfl (by decide +kernel) ⟨Nat.le_of_ble_eq_true rfl, Nat.le_of_ble_eq_true rfl⟩) ⟨Pr.blind _, va_recv hK hp.1 (ci := 11) (q0 := 0) rfl rfl, r_pre hp hK hN hZ hA⟩ rfl rfl hl.1 rfl (lv_room (Nat.le_of_ble_eq_true rfl)) dX9_isRead_2 ⟨Nat.le_of_ble_eq_true rfl, Nat.le_of_ble_eq_true rfl⟩) (fun H locs hp => ?_)
  refine lv_aload_n hx hb dX9_isRead_5 rfl (lv_at hl 0 rfl) ?_
  refine lv_aload_n hx hb dX9_isRead_6 rfl (lv_at hl 0 rfl) ?_
  refine r_ga hx hb hts iRX9 hown hK hp 29 (by decide) (by decide) (hts (.fieldLink RX9 78 "RecordBenchModel" "long0" "[I") (by decide +kernel)) dX9_isRead_7 ?_
  refine lv_iload_n hx hb dX9_isRead_10 rfl (lv_at hl 1 rfl) ?_
  obtain ⟨g_4, hf⟩ := gd_some hf
  refine r_ai (n := 4) hx hb hK hp 11 29 rfl rfl rfl g_4 dX9_isRead_11 ?_
  refine lv_iload_n hx hb dX9_isRead_12 rfl (lv_at hl 2 rfl) ?_
  obtain ⟨r_7, st_5, hc_6, hf⟩ := bnd_some hf
  refine r_ci hp hA (va_runV (As := [.int (gF st_1 29 p0.toNatClampNeg), .int p1]) (rest := []) ⟨hx, hb, hml, hown, hts⟩ (c_X9_reads l dC dI h0 ar ca (gF st_1 29 p0.toNatClampNeg) p1 _ _ _ hc_6 _) (cwV 2 hts gq_X9_isRead_X9_reads_305 rfl rfl rfl (by decide +kernel) ⟨Nat.le_of_ble_eq_true rfl, Nat.le_of_ble_eq_true rfl⟩) ⟨Pr.blind _, va_recv hK hp.1 (ci := 11) (q0 := 0) rfl rfl, r_pre hp hK hN hZ hA⟩ rfl rfl hl.1 rfl (lv_room (Nat.le_of_ble_eq_true rfl)) dX9_isRead_13 ⟨Nat.le_of_ble_eq_true rfl, Nat.le_of_ble_eq_true rfl⟩) (fun H locs hp => ?_)
  obtain ⟨hz, hf⟩ := gd_some hf
  obtain ⟨e1, e2⟩ := pr_some hf
  exact W.zret (v := r_7) hx hb hr hz (fun t ht hW => ⟨⟨r_7, (), rfl, e1, Rp.end e2 hp hK ht hW⟩, hp.2.2.F ht⟩) hp.2.2.2.2 dX9_isRead_16
noncomputable def x9_read_53  : Nat → Int32 → Int32 → Int32 → RS → Option (Int32 × RS)
  | 0 => fun _ _ _ _ => none
  | n + 1 => fun l2 l4 l5 st => pif ((gI st 41) ≤ l5) (some (l4, st)) (gd (vp_in l5 64) (bnd (x9_has l2 (gF st 42 l5.toNatClampNeg) st) (fun r_5 st_3 => pif (r_5 = 0) (nam (l5 + 1) (fun v_7 => (x9_read_53 n) l2 l4 v_7 st_3)) (nam (l4 + 1) (fun v_8 => nam (l5 + 1) (fun v_9 => (x9_read_53 n) l2 v_8 v_9 st_3))))))
theorem x9_read_53_z  (l2 : Int32) (l4 : Int32) (l5 : Int32) (st : RS) : x9_read_53  0 l2 l4 l5 st = none := rfl
theorem x9_read_53_s  (n : Nat) (l2 : Int32) (l4 : Int32) (l5 : Int32) (st : RS) : x9_read_53  (n + 1) l2 l4 l5 st = pif ((gI st 41) ≤ l5) (some (l4, st)) (gd (vp_in l5 64) (bnd (x9_has l2 (gF st 42 l5.toNatClampNeg) st) (fun r_5 st_3 => pif (r_5 = 0) (nam (l5 + 1) (fun v_7 => (x9_read_53 n) l2 l4 v_7 st_3)) (nam (l4 + 1) (fun v_8 => nam (l5 + 1) (fun v_9 => (x9_read_53 n) l2 v_8 v_9 st_3)))))) := rfl
noncomputable def x9_read (p0 : Int32) (p1 : Int32) (st : RS) : Option (Int32 × RS) := bnd (x9_isRecord p0 st) (fun r_12 st_10 => pif (r_12 = 0) (some (((-2) : Int32), st_10)) (bnd (x9_isMake p1 st_10) (fun r_16 st_14 => pif (r_16 = 0) (some (((-2) : Int32), st_14)) (bnd (x9_isRead p0 p1 st_14) (fun r_20 st_18 => nam (sI st_18 15 (gI st_18 39)) (fun st_21 => nam (sI st_21 16 (gI st_21 40)) (fun st_22 => pif (r_20 = 0) (some (((-1) : Int32), st_22)) (x9_read_53  fuel p1 0 0 st_22))))))))
def wq_X9_read : List Cond := .code yX9_read cX9_read 6 (some .int) :: (([.fieldLink RX9 285 "RecordBenchModel" "readFault" "I", .fieldLink RX9 236 "RecordBenchModel" "fault" "I", .fieldLink RX9 288 "RecordBenchModel" "readPlace" "I", .fieldLink RX9 42 "RecordBenchModel" "faultPlace" "I", .fieldLink RX9 291 "RecordBenchModel" "pieces" "I", .fieldLink RX9 84 "RecordBenchModel" "pieceNumber" "[I", .methodLink RX9 246 yX9_has, .instanceMethod yX9_has, .selects RX9 yX9_has yX9_has, .initialized RX9, .methodLink RX9 249 yX9_isRecord, .static yX9_isRecord, .methodLink RX9 239 yX9_isMake, .instanceMethod yX9_isMake, .selects RX9 yX9_isMake yX9_isMake, .methodLink RX9 308 yX9_isRead, .instanceMethod yX9_isRead, .selects RX9 yX9_isRead yX9_isRead, .code yX9_has cX9_has 3 (some .boolean), .fieldLink RX9 36 "RecordBenchModel" "isThere" "[Z", .fieldLink RX9 13 "RecordBenchModel" "kind" "[I", .code yX9_isRecord cX9_isRecord 1 (some .boolean), .code yX9_isMake cX9_isMake 2 (some .boolean), .fieldLink RX9 7 "RecordBenchModel" "told" "[Z", .code yX9_isRead cX9_isRead 3 (some .boolean), .fieldLink RX9 78 "RecordBenchModel" "long0" "[I", .methodLink RX9 302 yX9_loads, .instanceMethod yX9_loads, .selects RX9 yX9_loads yX9_loads, .methodLink RX9 305 yX9_reads, .instanceMethod yX9_reads, .selects RX9 yX9_reads yX9_reads, .code yX9_loads cX9_loads 3 none, .fieldLink RX9 81 "RecordBenchModel" "row" "[I", .fieldLink RX9 75 "RecordBenchModel" "bytes" "[I", .code yX9_reads cX9_reads 7 (some .boolean), .fieldLink RX9 102 "RecordBenchModel" "pileAt" "[I", .fieldLink RX9 105 "RecordBenchModel" "pileEnd" "[I", .fieldLink RX9 99 "RecordBenchModel" "pileMake" "[I", .fieldLink RX9 108 "RecordBenchModel" "pileLast" "[I", .fieldLink RX9 111 "RecordBenchModel" "pileGroups" "[I", .fieldLink RX9 260 "RecordBenchModel" "pieceFault" "I", .fieldLink RX9 263 "RecordBenchModel" "number" "I", .fieldLink RX9 87 "RecordBenchModel" "pieceBegin" "[I", .fieldLink RX9 90 "RecordBenchModel" "pieceFrom" "[I", .fieldLink RX9 275 "RecordBenchModel" "from" "I", .fieldLink RX9 93 "RecordBenchModel" "pieceTo" "[I", .fieldLink RX9 278 "RecordBenchModel" "to" "I", .fieldLink RX9 96 "RecordBenchModel" "pieceValue" "[J", .fieldLink RX9 273 "RecordBenchModel" "value" "J", .fieldLink RX9 17 "RecordBenchModel" "group" "[I", .fieldLink RX9 20 "RecordBenchModel" "inner" "[I", .methodLink RX9 294 yX9_opens, .instanceMethod yX9_opens, .selects RX9 yX9_opens yX9_opens, .methodLink RX9 298 yX9_piece, .instanceMethod yX9_piece, .selects RX9 yX9_piece yX9_piece, .code yX9_opens cX9_opens 5 none, .code yX9_piece cX9_piece 14 none, .fieldLink RX9 252 "RecordBenchModel" "varint" "J", .fieldLink RX9 267 "RecordBenchModel" "isLong" "Z", .constantLong RX9 271 (30), .fieldLink RX9 257 "RecordBenchModel" "varintEnd" "I", .methodLink RX9 281 yX9_isText, .static yX9_isText, .methodLink RX9 229 yX9_isOf, .static yX9_isOf, .methodLink RX9 265 yX9_varint, .instanceMethod yX9_varint, .selects RX9 yX9_varint yX9_varint, .code yX9_isText cX9_isText 4 (some .boolean), .code yX9_isOf cX9_isOf 3 (some .boolean), .constantLong RX9 219 (-2147483648), .constantLong RX9 221 (2147483647), .constantLong RX9 215 (-128), .constantLong RX9 217 (127), .code yX9_varint cX9_varint 6 (some .boolean), .constantLong RX9 255 (128)] : List Cond) ++ wsX90)
theorem gs_wq_X9_read_wsX90 : GoodIn wq_X9_read wsX90 := fun w h => ⟨List.mem_cons_of_mem _ (List.mem_append_right _ h), (gt_wsX90 w h).2⟩
set_option maxRecDepth 20000 in
theorem gq_X9_read_X9_has_246 : GoodIn wq_X9_read (wsV RX9 246 RX9 yX9_has wq_X9_has) := goodIn_app (goodIn_r _ [7, 8, 9, 10] rfl rfl) (goodIn_ca (goodIn_r _ [19, 20, 21] rfl rfl) gs_wq_X9_read_wsX90)
set_option maxRecDepth 20000 in
theorem gq_X9_read_X9_isRecord_249 : GoodIn wq_X9_read (wsS RX9 249 yX9_isRecord wq_X9_isRecord) := goodIn_app (goodIn_r _ [11, 12, 10] rfl rfl) (goodIn_r _ [22] rfl rfl)
set_option maxRecDepth 20000 in
theorem gq_X9_read_X9_isMake_239 : GoodIn wq_X9_read (wsV RX9 239 RX9 yX9_isMake wq_X9_isMake) := goodIn_app (goodIn_r _ [13, 14, 15, 10] rfl rfl) (goodIn_ca (goodIn_r _ [23, 24] rfl rfl) gs_wq_X9_read_wsX90)
set_option maxRecDepth 20000 in
theorem gq_X9_read_X9_isRead_308 : GoodIn wq_X9_read (wsV RX9 308 RX9 yX9_isRead wq_X9_isRead) := goodIn_app (goodIn_r _ [16, 17, 18, 10] rfl rfl) (goodIn_ca (goodIn_r _ [25, 26, 27, 28, 29, 10, 30, 31, 32, 33, 34, 35, 36, 1, 3, 5, 37, 38, 39, 40, 41, 42, 6, 43, 44, 45, 46, 47, 48, 49, 50, 51, 21, 52, 53, 54, 55, 7, 8, 9, 56, 57, 58, 59, 19, 20, 60, 61, 62, 63, 64, 65, 66, 67, 68, 69, 70, 71, 72, 73, 74, 75, 76, 77, 78, 79] rfl rfl) gs_wq_X9_read_wsX90)
set_option maxHeartbeats 4000000 in
set_option maxRecDepth 100000 in
theorem c_X9_read (l : Launch) (dC : Nat → ClassId) (dI : Nat → Nat → Nat) (h0 : Nat) (ar : Nat → Nat) (ca : Nat → ClassId) (p0 : Int32) (p1 : Int32) (st st' : RS) (r : Int32) (hf : x9_read p0 p1 st = some (r, st')) (sz : Nat) : Met l yX9_read wq_X9_read ({ frames := 4, cells := 0, slots := 0, locals := 122 }) (va_Pc [.ref h0, .int p0, .int p1] (Pr (dC, dI) (rT ca) [] (RW h0 ar ca st) sz)) (va_Qi (fun r' (_ : Unit) => r' = r) (Bq (dC, dI) (fun _ => RW h0 ar ca st') (fun _ => []) (va_A (RW h0 ar ca st) sz)) (va_A (RW h0 ar ca st) sz)) 0 0 (va_A (RW h0 ar ca st) sz) := by
  refine Met.ofW (cc := cX9_read) (maxL := 6) (ret := (some .int)) (by decide) rfl ?_
  intro p e s m args below meth c s₁ B hml hv
  obtain ⟨rfl, hsz, hP, hK, hD0, hN, hZ, hR⟩ := hv
  have hx := B.exec
  have hb := B.bytes
  have hr := B.returns
  have hts := atoms_spec (ws := wq_X9_read) B.pre
  have hown : s.vm.findClass RX9 = some m.cls := findClass_of_methodNamed B.named
  have iRX9 : ∀ w ∈ u_ws RX9 TX9 60, w ∈ wq_X9_read := fun w h => List.mem_cons_of_mem _ (List.mem_append_right _ h)
  subst hsz
  have hp : Rp (dC, dI) h0 ar ca (va_A (RW h0 ar ca st) s.heap.size) s.heap st s.heap [] := ⟨hP, hD0.self, va_S.rf⟩
  generalize hAe : va_A (RW h0 ar ca st) s.heap.size = A at hp hZ ⊢
  have hA : ∀ q : Nat, s.heap.size ≤ q → A q := fun q h => by rw [← hAe]; exact Or.inr h
  have hl := lv_entry ([.ref h0, .int p0, .int p1]) (n := 6) (Nat.le_of_ble_eq_true rfl)
  rw [lg_entry_eq]
  generalize (lg_sl ([.ref h0, .int p0, .int p1]) ++ List.replicate (6 - (lg_sl ([.ref h0, .int p0, .int p1])).length) Slot.unset).toArray = ls at hl ⊢
  have hl : lv_has ls 6 [(0, .ref h0), (1, .int p0), (2, .int p1)] := hl
  refine W_lp (fun n53 (u : Int32 × Int32 × Int32 × RS) H locs ls => match u with | (l2, l4, l5, st) => x9_read_53 n53 l2 l4 l5 st = some (r, st') ∧ Rp (dC, dI) h0 ar ca A s.heap st H locs ∧ lv_has ls 6 [(0, .ref h0), (2, .int l2), (4, .int l4), (5, .int l5)]) (fun (u : Int32 × Int32 × Int32 × RS) ls => match u with | (l2, l4, l5, st) => F0 m 53 ls []) ?_ ?_ (fun J53 => ?_)
  · intro u H locs ls hu
    obtain ⟨l2, l4, l5, st⟩ := u
    obtain ⟨hf, hp, hl⟩ := hu
    rw [x9_read_53_z] at hf
    cases hf
  · intro n53 ih53 u H locs ls hu
    obtain ⟨l2, l4, l5, st⟩ := u
    obtain ⟨hf, hp, hl⟩ := hu
    show W p l e _ s m _ below meth c _ _ _ _ _ (F0 m 53 ls [])
    rw [x9_read_53_s] at hf
    refine lv_iload hx hb dX9_read_53 (lv_at hl 3 rfl) ?_
    refine lv_aload_n hx hb dX9_read_55 rfl (lv_at hl 0 rfl) ?_
    refine r_gi hx hb hts iRX9 hown hK hp 41 (by decide) rfl (hts (.fieldLink RX9 291 "RecordBenchModel" "pieces" "I") (by decide +kernel)) dX9_read_56 ?_
    refine lv_icmp_ge (tgt := 86) hx hb dX9_read_59 (by decide) (fun c_1 => ?_) (fun c_1 => ?_)
    · have hf := pif_t c_1 hf
      refine lv_iload hx hb dX9_read_86 (lv_at hl 2 rfl) ?_
      obtain ⟨e1, e2⟩ := pr_some hf
      exact W.iret (v := l4) hx hb hr (fun t ht hW => ⟨⟨l4, (), rfl, e1, Rp.end e2 hp hK ht hW⟩, hp.2.2.F ht⟩) hp.2.2.2.2 dX9_read_88
    · have hf := pif_f c_1 hf
      refine lv_aload_n hx hb dX9_read_62 rfl (lv_at hl 0 rfl) ?_
      refine lv_iload_n hx hb dX9_read_63 rfl (lv_at hl 1 rfl) ?_
      refine lv_aload_n hx hb dX9_read_64 rfl (lv_at hl 0 rfl) ?_
      refine r_ga hx hb hts iRX9 hown hK hp 42 (by decide) (by decide) (hts (.fieldLink RX9 84 "RecordBenchModel" "pieceNumber" "[I") (by decide +kernel)) dX9_read_65 ?_
      refine lv_iload hx hb dX9_read_68 (lv_at hl 3 rfl) ?_
      obtain ⟨g_2, hf⟩ := gd_some hf
      refine r_ai (n := 64) hx hb hK hp 13 42 rfl rfl rfl g_2 dX9_read_70 ?_
      obtain ⟨r_5, st_3, hc_4, hf⟩ := bnd_some hf
      refine r_ci hp hA (va_runV (As := [.int l2, .int (gF st 42 l5.toNatClampNeg)]) (rest := []) ⟨hx, hb, hml, hown, hts⟩ (c_X9_has l dC dI h0 ar ca l2 (gF st 42 l5.toNatClampNeg) _ _ _ hc_4 _) (cwV 2 hts gq_X9_read_X9_has_246 rfl rfl rfl (by decide +kernel) ⟨Nat.le_of_ble_eq_true rfl, Nat.le_of_ble_eq_true rfl⟩) ⟨Pr.blind _, va_recv hK hp.1 (ci := 11) (q0 := 0) rfl rfl, r_pre hp hK hN hZ hA⟩ rfl rfl hl.1 rfl (lv_room (Nat.le_of_ble_eq_true rfl)) dX9_read_71 ⟨Nat.le_of_ble_eq_true rfl, Nat.le_of_ble_eq_true rfl⟩) (fun H locs hp => ?_)
      refine lv_if_eq (tgt := 80) hx hb dX9_read_74 (by decide) (fun c_6 => ?_) (fun c_6 => ?_)
      · have hf := pif_t c_6 hf
        obtain ⟨v_7, ev_7, hf⟩ := nam_some hf
        refine lv_iinc (v := v_7) (lv' := [(5, .int v_7), (0, .ref h0), (2, .int l2), (4, .int l4)]) hx hb dX9_read_80 hl (k := 3) rfl ev_7.symm (by decide) rfl (fun ls hl => ?_)
        refine lv_goto (tgt := 53) hx hb dX9_read_83 (by decide) ?_
        exact ih53 (l2, l4, v_7, st_3) _ _ _ ⟨hf, hp, (lv_sub hl [1, 2, 3, 0] rfl)⟩
      · have hf := pif_f c_6 hf
        obtain ⟨v_8, ev_8, hf⟩ := nam_some hf
        refine lv_iinc (v := v_8) (lv' := [(4, .int v_8), (0, .ref h0), (2, .int l2), (5, .int l5)]) hx hb dX9_read_77 hl (k := 2) rfl ev_8.symm (by decide) rfl (fun ls hl => ?_)
        obtain ⟨v_9, ev_9, hf⟩ := nam_some hf
        refine lv_iinc (v := v_9) (lv' := [(5, .int v_9), (4, .int v_8), (0, .ref h0), (2, .int l2)]) hx hb dX9_read_80 hl (k := 3) rfl ev_9.symm (by decide) rfl (fun ls hl => ?_)
        refine lv_goto (tgt := 53) hx hb dX9_read_83 (by decide) ?_
        exact ih53 (l2, v_8, v_9, st_3) _ _ _ ⟨hf, hp, (lv_sub hl [2, 3, 1, 0] rfl)⟩
  unfold x9_read at hf
  refine lv_iload_n hx hb dX9_read_0 rfl (lv_at hl 1 rfl) ?_
  obtain ⟨r_12, st_10, hc_11, hf⟩ := bnd_some hf
  refine r_ci hp hA (va_runS (As := [.int p0]) (rest := []) ⟨hx, hb, hml, hown, hts⟩ (c_X9_isRecord l dC dI h0 ar ca p0 _ _ _ hc_11 _) (cwS 1 hts gq_X9_read_X9_isRecord_249 rfl rfl rfl (by decide +kernel) ⟨Nat.le_of_ble_eq_true rfl, Nat.le_of_ble_eq_true rfl⟩) ⟨Pr.blind _, r_pre hp hK hN hZ hA⟩ rfl rfl hl.1 rfl (lv_room (Nat.le_of_ble_eq_true rfl)) dX9_read_1 ⟨Nat.le_of_ble_eq_true rfl, Nat.le_of_ble_eq_true rfl⟩) (fun H locs hp => ?_)
  refine lv_if_eq (tgt := 15) hx hb dX9_read_4 (by decide) (fun c_13 => ?_) (fun c_13 => ?_)
  · have hf := pif_t c_13 hf
    refine lv_bipush (v := (-2)) hx hb dX9_read_15 (by decide) ?_
    obtain ⟨e1, e2⟩ := pr_some hf
    exact W.iret (v := (-2)) hx hb hr (fun t ht hW => ⟨⟨(-2), (), rfl, e1, Rp.end e2 hp hK ht hW⟩, hp.2.2.F ht⟩) hp.2.2.2.2 dX9_read_17
  · have hf := pif_f c_13 hf
    refine lv_aload_n hx hb dX9_read_7 rfl (lv_at hl 0 rfl) ?_
    refine lv_iload_n hx hb dX9_read_8 rfl (lv_at hl 2 rfl) ?_
    obtain ⟨r_16, st_14, hc_15, hf⟩ := bnd_some hf
    refine r_ci hp hA (va_runV (As := [.int p1]) (rest := []) ⟨hx, hb, hml, hown, hts⟩ (c_X9_isMake l dC dI h0 ar ca p1 _ _ _ hc_15 _) (cwV 1 hts gq_X9_read_X9_isMake_239 rfl rfl rfl (by decide +kernel) ⟨Nat.le_of_ble_eq_true rfl, Nat.le_of_ble_eq_true rfl⟩) ⟨Pr.blind _, va_recv hK hp.1 (ci := 11) (q0 := 0) rfl rfl, r_pre hp hK hN hZ hA⟩ rfl rfl hl.1 rfl (lv_room (Nat.le_of_ble_eq_true rfl)) dX9_read_9 ⟨Nat.le_of_ble_eq_true rfl, Nat.le_of_ble_eq_true rfl⟩) (fun H locs hp => ?_)
    refine lv_if_ne (tgt := 18) hx hb dX9_read_12 (by decide) (fun c_17 => ?_) (fun c_17 => ?_)
    · have hf := pif_f c_17 hf
      refine lv_aload_n hx hb dX9_read_18 rfl (lv_at hl 0 rfl) ?_
      refine lv_iload_n hx hb dX9_read_19 rfl (lv_at hl 1 rfl) ?_
      refine lv_iload_n hx hb dX9_read_20 rfl (lv_at hl 2 rfl) ?_
      obtain ⟨r_20, st_18, hc_19, hf⟩ := bnd_some hf
      refine r_ci hp hA (va_runV (As := [.int p0, .int p1]) (rest := []) ⟨hx, hb, hml, hown, hts⟩ (c_X9_isRead l dC dI h0 ar ca p0 p1 _ _ _ hc_19 _) (cwV 2 hts gq_X9_read_X9_isRead_308 rfl rfl rfl (by decide +kernel) ⟨Nat.le_of_ble_eq_true rfl, Nat.le_of_ble_eq_true rfl⟩) ⟨Pr.blind _, va_recv hK hp.1 (ci := 11) (q0 := 0) rfl rfl, r_pre hp hK hN hZ hA⟩ rfl rfl hl.1 rfl (lv_room (Nat.le_of_ble_eq_true rfl)) dX9_read_21 ⟨Nat.le_of_ble_eq_true rfl, Nat.le_of_ble_eq_true rfl⟩) (fun H locs hp => ?_)
      refine lv_istore_n (lv' := [(3, .int r_20), (0, .ref h0), (1, .int p0), (2, .int p1)]) hx hb dX9_read_24 rfl hl (by decide) rfl (fun ls hl => ?_)
      refine lv_aload_n hx hb dX9_read_25 rfl (lv_at hl 1 rfl) ?_
      refine lv_aload_n hx hb dX9_read_26 rfl (lv_at hl 1 rfl) ?_
      refine r_gi hx hb hts iRX9 hown hK hp 39 (by decide) rfl (hts (.fieldLink RX9 285 "RecordBenchModel" "readFault" "I") (by decide +kernel)) dX9_read_27 ?_
      refine r_pi (v := gI st_18 39) (ty := .int) hx hb hts iRX9 hown hK hp 15 (by decide) rfl (hts (.fieldLink RX9 236 "RecordBenchModel" "fault" "I") (by decide +kernel)) rfl (by decide +kernel) rfl rfl dX9_read_30 (fun H locs hp => ?_)
      obtain ⟨st_21, est_21, hf⟩ := nam_some hf
      rw [← est_21] at hp
      refine lv_aload_n hx hb dX9_read_33 rfl (lv_at hl 1 rfl) ?_
      refine lv_aload_n hx hb dX9_read_34 rfl (lv_at hl 1 rfl) ?_
      refine r_gi hx hb hts iRX9 hown hK hp 40 (by decide) rfl (hts (.fieldLink RX9 288 "RecordBenchModel" "readPlace" "I") (by decide +kernel)) dX9_read_35 ?_
      refine r_pi (v := gI st_21 40) (ty := .int) hx hb hts iRX9 hown hK hp 16 (by decide) rfl (hts (.fieldLink RX9 42 "RecordBenchModel" "faultPlace" "I") (by decide +kernel)) rfl (by decide +kernel) rfl rfl dX9_read_38 (fun H locs hp => ?_)
      obtain ⟨st_22, est_22, hf⟩ := nam_some hf
      rw [← est_22] at hp
      refine lv_iload_n hx hb dX9_read_41 rfl (lv_at hl 0 rfl) ?_
      refine lv_if_ne (tgt := 47) hx hb dX9_read_42 (by decide) (fun c_23 => ?_) (fun c_23 => ?_)
      · have hf := pif_f c_23 hf
        refine lv_iconst (v := 0) hx hb dX9_read_47 (by decide) ?_
        refine lv_istore (lv' := [(4, .int 0), (3, .int r_20), (0, .ref h0), (1, .int p0), (2, .int p1)]) hx hb dX9_read_48 hl (by decide) rfl (fun ls hl => ?_)
        refine lv_iconst (v := 0) hx hb dX9_read_50 (by decide) ?_
        refine lv_istore (lv' := [(5, .int 0), (4, .int 0), (3, .int r_20), (0, .ref h0), (1, .int p0), (2, .int p1)]) hx hb dX9_read_51 hl (by decide) rfl (fun ls hl => ?_)
        exact J53 fuel (p1, 0, 0, st_22) _ _ _ ⟨hf, hp, (lv_sub hl [3, 5, 1, 0] rfl)⟩
      · have hf := pif_t c_23 hf
        refine lv_iconst (v := (-1)) hx hb dX9_read_45 (by decide) ?_
        obtain ⟨e1, e2⟩ := pr_some hf
        exact W.iret (v := (-1)) hx hb hr (fun t ht hW => ⟨⟨(-1), (), rfl, e1, Rp.end e2 hp hK ht hW⟩, hp.2.2.F ht⟩) hp.2.2.2.2 dX9_read_46
    · have hf := pif_t c_17 hf
      refine lv_bipush (v := (-2)) hx hb dX9_read_15 (by decide) ?_
      obtain ⟨e1, e2⟩ := pr_some hf
      exact W.iret (v := (-2)) hx hb hr (fun t ht hW => ⟨⟨(-2), (), rfl, e1, Rp.end e2 hp hK ht hW⟩, hp.2.2.F ht⟩) hp.2.2.2.2 dX9_read_17
noncomputable def x9_kept_31  : Nat → Int32 → Int32 → Int32 → RS → Option (Int32 × RS)
  | 0 => fun _ _ _ _ => none
  | n + 1 => fun l2 l3 l4 st => pif ((gI st 41) ≤ l4) (some (l3, st)) (gd (vp_in l4 64) (bnd (x9_has l2 (gF st 42 l4.toNatClampNeg) st) (fun r_5 st_3 => pif (r_5 = 0) (nam (l3 + 1) (fun v_8 => nam (l4 + 1) (fun v_9 => (x9_kept_31 n) l2 v_8 v_9 st_3))) (nam (l4 + 1) (fun v_7 => (x9_kept_31 n) l2 l3 v_7 st_3)))))
theorem x9_kept_31_z  (l2 : Int32) (l3 : Int32) (l4 : Int32) (st : RS) : x9_kept_31  0 l2 l3 l4 st = none := rfl
theorem x9_kept_31_s  (n : Nat) (l2 : Int32) (l3 : Int32) (l4 : Int32) (st : RS) : x9_kept_31  (n + 1) l2 l3 l4 st = pif ((gI st 41) ≤ l4) (some (l3, st)) (gd (vp_in l4 64) (bnd (x9_has l2 (gF st 42 l4.toNatClampNeg) st) (fun r_5 st_3 => pif (r_5 = 0) (nam (l3 + 1) (fun v_8 => nam (l4 + 1) (fun v_9 => (x9_kept_31 n) l2 v_8 v_9 st_3))) (nam (l4 + 1) (fun v_7 => (x9_kept_31 n) l2 l3 v_7 st_3))))) := rfl
noncomputable def x9_kept (p0 : Int32) (p1 : Int32) (st : RS) : Option (Int32 × RS) := bnd (x9_isRecord p0 st) (fun r_12 st_10 => pif (r_12 = 0) (some (((-1) : Int32), st_10)) (bnd (x9_isMake p1 st_10) (fun r_16 st_14 => pif (r_16 = 0) (some (((-1) : Int32), st_14)) (bnd (x9_isRead p0 p1 st_14) (fun r_20 st_18 => pif (r_20 = 0) (some (((-1) : Int32), st_18)) (x9_kept_31  fuel p1 0 0 st_18))))))
def wq_X9_kept : List Cond := .code yX9_kept cX9_kept 5 (some .int) :: (([.fieldLink RX9 291 "RecordBenchModel" "pieces" "I", .fieldLink RX9 84 "RecordBenchModel" "pieceNumber" "[I", .methodLink RX9 246 yX9_has, .instanceMethod yX9_has, .selects RX9 yX9_has yX9_has, .initialized RX9, .methodLink RX9 249 yX9_isRecord, .static yX9_isRecord, .methodLink RX9 239 yX9_isMake, .instanceMethod yX9_isMake, .selects RX9 yX9_isMake yX9_isMake, .methodLink RX9 308 yX9_isRead, .instanceMethod yX9_isRead, .selects RX9 yX9_isRead yX9_isRead, .code yX9_has cX9_has 3 (some .boolean), .fieldLink RX9 36 "RecordBenchModel" "isThere" "[Z", .fieldLink RX9 13 "RecordBenchModel" "kind" "[I", .code yX9_isRecord cX9_isRecord 1 (some .boolean), .code yX9_isMake cX9_isMake 2 (some .boolean), .fieldLink RX9 7 "RecordBenchModel" "told" "[Z", .code yX9_isRead cX9_isRead 3 (some .boolean), .fieldLink RX9 78 "RecordBenchModel" "long0" "[I", .methodLink RX9 302 yX9_loads, .instanceMethod yX9_loads, .selects RX9 yX9_loads yX9_loads, .methodLink RX9 305 yX9_reads, .instanceMethod yX9_reads, .selects RX9 yX9_reads yX9_reads, .code yX9_loads cX9_loads 3 none, .fieldLink RX9 81 "RecordBenchModel" "row" "[I", .fieldLink RX9 75 "RecordBenchModel" "bytes" "[I", .code yX9_reads cX9_reads 7 (some .boolean), .fieldLink RX9 285 "RecordBenchModel" "readFault" "I", .fieldLink RX9 288 "RecordBenchModel" "readPlace" "I", .fieldLink RX9 102 "RecordBenchModel" "pileAt" "[I", .fieldLink RX9 105 "RecordBenchModel" "pileEnd" "[I", .fieldLink RX9 99 "RecordBenchModel" "pileMake" "[I", .fieldLink RX9 108 "RecordBenchModel" "pileLast" "[I", .fieldLink RX9 111 "RecordBenchModel" "pileGroups" "[I", .fieldLink RX9 260 "RecordBenchModel" "pieceFault" "I", .fieldLink RX9 263 "RecordBenchModel" "number" "I", .fieldLink RX9 87 "RecordBenchModel" "pieceBegin" "[I", .fieldLink RX9 90 "RecordBenchModel" "pieceFrom" "[I", .fieldLink RX9 275 "RecordBenchModel" "from" "I", .fieldLink RX9 93 "RecordBenchModel" "pieceTo" "[I", .fieldLink RX9 278 "RecordBenchModel" "to" "I", .fieldLink RX9 96 "RecordBenchModel" "pieceValue" "[J", .fieldLink RX9 273 "RecordBenchModel" "value" "J", .fieldLink RX9 17 "RecordBenchModel" "group" "[I", .fieldLink RX9 20 "RecordBenchModel" "inner" "[I", .methodLink RX9 294 yX9_opens, .instanceMethod yX9_opens, .selects RX9 yX9_opens yX9_opens, .methodLink RX9 298 yX9_piece, .instanceMethod yX9_piece, .selects RX9 yX9_piece yX9_piece, .code yX9_opens cX9_opens 5 none, .code yX9_piece cX9_piece 14 none, .fieldLink RX9 252 "RecordBenchModel" "varint" "J", .fieldLink RX9 267 "RecordBenchModel" "isLong" "Z", .constantLong RX9 271 (30), .fieldLink RX9 257 "RecordBenchModel" "varintEnd" "I", .methodLink RX9 281 yX9_isText, .static yX9_isText, .methodLink RX9 229 yX9_isOf, .static yX9_isOf, .methodLink RX9 265 yX9_varint, .instanceMethod yX9_varint, .selects RX9 yX9_varint yX9_varint, .code yX9_isText cX9_isText 4 (some .boolean), .code yX9_isOf cX9_isOf 3 (some .boolean), .constantLong RX9 219 (-2147483648), .constantLong RX9 221 (2147483647), .constantLong RX9 215 (-128), .constantLong RX9 217 (127), .code yX9_varint cX9_varint 6 (some .boolean), .constantLong RX9 255 (128)] : List Cond) ++ wsX90)
theorem gs_wq_X9_kept_wsX90 : GoodIn wq_X9_kept wsX90 := fun w h => ⟨List.mem_cons_of_mem _ (List.mem_append_right _ h), (gt_wsX90 w h).2⟩
set_option maxRecDepth 20000 in
theorem gq_X9_kept_X9_has_246 : GoodIn wq_X9_kept (wsV RX9 246 RX9 yX9_has wq_X9_has) := goodIn_app (goodIn_r _ [3, 4, 5, 6] rfl rfl) (goodIn_ca (goodIn_r _ [15, 16, 17] rfl rfl) gs_wq_X9_kept_wsX90)
set_option maxRecDepth 20000 in
theorem gq_X9_kept_X9_isRecord_249 : GoodIn wq_X9_kept (wsS RX9 249 yX9_isRecord wq_X9_isRecord) := goodIn_app (goodIn_r _ [7, 8, 6] rfl rfl) (goodIn_r _ [18] rfl rfl)
set_option maxRecDepth 20000 in
theorem gq_X9_kept_X9_isMake_239 : GoodIn wq_X9_kept (wsV RX9 239 RX9 yX9_isMake wq_X9_isMake) := goodIn_app (goodIn_r _ [9, 10, 11, 6] rfl rfl) (goodIn_ca (goodIn_r _ [19, 20] rfl rfl) gs_wq_X9_kept_wsX90)
set_option maxRecDepth 20000 in
theorem gq_X9_kept_X9_isRead_308 : GoodIn wq_X9_kept (wsV RX9 308 RX9 yX9_isRead wq_X9_isRead) := goodIn_app (goodIn_r _ [12, 13, 14, 6] rfl rfl) (goodIn_ca (goodIn_r _ [21, 22, 23, 24, 25, 6, 26, 27, 28, 29, 30, 31, 32, 33, 34, 1, 35, 36, 37, 38, 39, 40, 2, 41, 42, 43, 44, 45, 46, 47, 48, 49, 17, 50, 51, 52, 53, 3, 4, 5, 54, 55, 56, 57, 15, 16, 58, 59, 60, 61, 62, 63, 64, 65, 66, 67, 68, 69, 70, 71, 72, 73, 74, 75, 76, 77] rfl rfl) gs_wq_X9_kept_wsX90)
set_option maxHeartbeats 4000000 in
set_option maxRecDepth 100000 in
theorem c_X9_kept (l : Launch) (dC : Nat → ClassId) (dI : Nat → Nat → Nat) (h0 : Nat) (ar : Nat → Nat) (ca : Nat → ClassId) (p0 : Int32) (p1 : Int32) (st st' : RS) (r : Int32) (hf : x9_kept p0 p1 st = some (r, st')) (sz : Nat) : Met l yX9_kept wq_X9_kept ({ frames := 4, cells := 0, slots := 0, locals := 122 }) (va_Pc [.ref h0, .int p0, .int p1] (Pr (dC, dI) (rT ca) [] (RW h0 ar ca st) sz)) (va_Qi (fun r' (_ : Unit) => r' = r) (Bq (dC, dI) (fun _ => RW h0 ar ca st') (fun _ => []) (va_A (RW h0 ar ca st) sz)) (va_A (RW h0 ar ca st) sz)) 0 0 (va_A (RW h0 ar ca st) sz) := by
  refine Met.ofW (cc := cX9_kept) (maxL := 5) (ret := (some .int)) (by decide) rfl ?_
  intro p e s m args below meth c s₁ B hml hv
  obtain ⟨rfl, hsz, hP, hK, hD0, hN, hZ, hR⟩ := hv
  have hx := B.exec
  have hb := B.bytes
  have hr := B.returns
  have hts := atoms_spec (ws := wq_X9_kept) B.pre
  have hown : s.vm.findClass RX9 = some m.cls := findClass_of_methodNamed B.named
  have iRX9 : ∀ w ∈ u_ws RX9 TX9 60, w ∈ wq_X9_kept := fun w h => List.mem_cons_of_mem _ (List.mem_append_right _ h)
  subst hsz
  have hp : Rp (dC, dI) h0 ar ca (va_A (RW h0 ar ca st) s.heap.size) s.heap st s.heap [] := ⟨hP, hD0.self, va_S.rf⟩
  generalize hAe : va_A (RW h0 ar ca st) s.heap.size = A at hp hZ ⊢
  have hA : ∀ q : Nat, s.heap.size ≤ q → A q := fun q h => by rw [← hAe]; exact Or.inr h
  have hl := lv_entry ([.ref h0, .int p0, .int p1]) (n := 5) (Nat.le_of_ble_eq_true rfl)
  rw [lg_entry_eq]
  generalize (lg_sl ([.ref h0, .int p0, .int p1]) ++ List.replicate (5 - (lg_sl ([.ref h0, .int p0, .int p1])).length) Slot.unset).toArray = ls at hl ⊢
  have hl : lv_has ls 5 [(0, .ref h0), (1, .int p0), (2, .int p1)] := hl
  refine W_lp (fun n31 (u : Int32 × Int32 × Int32 × RS) H locs ls => match u with | (l2, l3, l4, st) => x9_kept_31 n31 l2 l3 l4 st = some (r, st') ∧ Rp (dC, dI) h0 ar ca A s.heap st H locs ∧ lv_has ls 5 [(0, .ref h0), (2, .int l2), (3, .int l3), (4, .int l4)]) (fun (u : Int32 × Int32 × Int32 × RS) ls => match u with | (l2, l3, l4, st) => F0 m 31 ls []) ?_ ?_ (fun J31 => ?_)
  · intro u H locs ls hu
    obtain ⟨l2, l3, l4, st⟩ := u
    obtain ⟨hf, hp, hl⟩ := hu
    rw [x9_kept_31_z] at hf
    cases hf
  · intro n31 ih31 u H locs ls hu
    obtain ⟨l2, l3, l4, st⟩ := u
    obtain ⟨hf, hp, hl⟩ := hu
    show W p l e _ s m _ below meth c _ _ _ _ _ (F0 m 31 ls [])
    rw [x9_kept_31_s] at hf
    refine lv_iload hx hb dX9_kept_31 (lv_at hl 3 rfl) ?_
    refine lv_aload_n hx hb dX9_kept_33 rfl (lv_at hl 0 rfl) ?_
    refine r_gi hx hb hts iRX9 hown hK hp 41 (by decide) rfl (hts (.fieldLink RX9 291 "RecordBenchModel" "pieces" "I") (by decide +kernel)) dX9_kept_34 ?_
    refine lv_icmp_ge (tgt := 64) hx hb dX9_kept_37 (by decide) (fun c_1 => ?_) (fun c_1 => ?_)
    · have hf := pif_t c_1 hf
      refine lv_iload_n hx hb dX9_kept_64 rfl (lv_at hl 2 rfl) ?_
      obtain ⟨e1, e2⟩ := pr_some hf
      exact W.iret (v := l3) hx hb hr (fun t ht hW => ⟨⟨l3, (), rfl, e1, Rp.end e2 hp hK ht hW⟩, hp.2.2.F ht⟩) hp.2.2.2.2 dX9_kept_65
    · have hf := pif_f c_1 hf
      refine lv_aload_n hx hb dX9_kept_40 rfl (lv_at hl 0 rfl) ?_
      refine lv_iload_n hx hb dX9_kept_41 rfl (lv_at hl 1 rfl) ?_
      refine lv_aload_n hx hb dX9_kept_42 rfl (lv_at hl 0 rfl) ?_
      refine r_ga hx hb hts iRX9 hown hK hp 42 (by decide) (by decide) (hts (.fieldLink RX9 84 "RecordBenchModel" "pieceNumber" "[I") (by decide +kernel)) dX9_kept_43 ?_
      refine lv_iload hx hb dX9_kept_46 (lv_at hl 3 rfl) ?_
      obtain ⟨g_2, hf⟩ := gd_some hf
      refine r_ai (n := 64) hx hb hK hp 13 42 rfl rfl rfl g_2 dX9_kept_48 ?_
      obtain ⟨r_5, st_3, hc_4, hf⟩ := bnd_some hf
      refine r_ci hp hA (va_runV (As := [.int l2, .int (gF st 42 l4.toNatClampNeg)]) (rest := []) ⟨hx, hb, hml, hown, hts⟩ (c_X9_has l dC dI h0 ar ca l2 (gF st 42 l4.toNatClampNeg) _ _ _ hc_4 _) (cwV 2 hts gq_X9_kept_X9_has_246 rfl rfl rfl (by decide +kernel) ⟨Nat.le_of_ble_eq_true rfl, Nat.le_of_ble_eq_true rfl⟩) ⟨Pr.blind _, va_recv hK hp.1 (ci := 11) (q0 := 0) rfl rfl, r_pre hp hK hN hZ hA⟩ rfl rfl hl.1 rfl (lv_room (Nat.le_of_ble_eq_true rfl)) dX9_kept_49 ⟨Nat.le_of_ble_eq_true rfl, Nat.le_of_ble_eq_true rfl⟩) (fun H locs hp => ?_)
      refine lv_if_ne (tgt := 58) hx hb dX9_kept_52 (by decide) (fun c_6 => ?_) (fun c_6 => ?_)
      · have hf := pif_f c_6 hf
        obtain ⟨v_7, ev_7, hf⟩ := nam_some hf
        refine lv_iinc (v := v_7) (lv' := [(4, .int v_7), (0, .ref h0), (2, .int l2), (3, .int l3)]) hx hb dX9_kept_58 hl (k := 3) rfl ev_7.symm (by decide) rfl (fun ls hl => ?_)
        refine lv_goto (tgt := 31) hx hb dX9_kept_61 (by decide) ?_
        exact ih31 (l2, l3, v_7, st_3) _ _ _ ⟨hf, hp, (lv_sub hl [1, 2, 3, 0] rfl)⟩
      · have hf := pif_t c_6 hf
        obtain ⟨v_8, ev_8, hf⟩ := nam_some hf
        refine lv_iinc (v := v_8) (lv' := [(3, .int v_8), (0, .ref h0), (2, .int l2), (4, .int l4)]) hx hb dX9_kept_55 hl (k := 2) rfl ev_8.symm (by decide) rfl (fun ls hl => ?_)
        obtain ⟨v_9, ev_9, hf⟩ := nam_some hf
        refine lv_iinc (v := v_9) (lv' := [(4, .int v_9), (3, .int v_8), (0, .ref h0), (2, .int l2)]) hx hb dX9_kept_58 hl (k := 3) rfl ev_9.symm (by decide) rfl (fun ls hl => ?_)
        refine lv_goto (tgt := 31) hx hb dX9_kept_61 (by decide) ?_
        exact ih31 (l2, v_8, v_9, st_3) _ _ _ ⟨hf, hp, (lv_sub hl [2, 3, 1, 0] rfl)⟩
  unfold x9_kept at hf
  refine lv_iload_n hx hb dX9_kept_0 rfl (lv_at hl 1 rfl) ?_
  obtain ⟨r_12, st_10, hc_11, hf⟩ := bnd_some hf
  refine r_ci hp hA (va_runS (As := [.int p0]) (rest := []) ⟨hx, hb, hml, hown, hts⟩ (c_X9_isRecord l dC dI h0 ar ca p0 _ _ _ hc_11 _) (cwS 1 hts gq_X9_kept_X9_isRecord_249 rfl rfl rfl (by decide +kernel) ⟨Nat.le_of_ble_eq_true rfl, Nat.le_of_ble_eq_true rfl⟩) ⟨Pr.blind _, r_pre hp hK hN hZ hA⟩ rfl rfl hl.1 rfl (lv_room (Nat.le_of_ble_eq_true rfl)) dX9_kept_1 ⟨Nat.le_of_ble_eq_true rfl, Nat.le_of_ble_eq_true rfl⟩) (fun H locs hp => ?_)
  refine lv_if_eq (tgt := 24) hx hb dX9_kept_4 (by decide) (fun c_13 => ?_) (fun c_13 => ?_)
  · have hf := pif_t c_13 hf
    refine lv_iconst (v := (-1)) hx hb dX9_kept_24 (by decide) ?_
    obtain ⟨e1, e2⟩ := pr_some hf
    exact W.iret (v := (-1)) hx hb hr (fun t ht hW => ⟨⟨(-1), (), rfl, e1, Rp.end e2 hp hK ht hW⟩, hp.2.2.F ht⟩) hp.2.2.2.2 dX9_kept_25
  · have hf := pif_f c_13 hf
    refine lv_aload_n hx hb dX9_kept_7 rfl (lv_at hl 0 rfl) ?_
    refine lv_iload_n hx hb dX9_kept_8 rfl (lv_at hl 2 rfl) ?_
    obtain ⟨r_16, st_14, hc_15, hf⟩ := bnd_some hf
    refine r_ci hp hA (va_runV (As := [.int p1]) (rest := []) ⟨hx, hb, hml, hown, hts⟩ (c_X9_isMake l dC dI h0 ar ca p1 _ _ _ hc_15 _) (cwV 1 hts gq_X9_kept_X9_isMake_239 rfl rfl rfl (by decide +kernel) ⟨Nat.le_of_ble_eq_true rfl, Nat.le_of_ble_eq_true rfl⟩) ⟨Pr.blind _, va_recv hK hp.1 (ci := 11) (q0 := 0) rfl rfl, r_pre hp hK hN hZ hA⟩ rfl rfl hl.1 rfl (lv_room (Nat.le_of_ble_eq_true rfl)) dX9_kept_9 ⟨Nat.le_of_ble_eq_true rfl, Nat.le_of_ble_eq_true rfl⟩) (fun H locs hp => ?_)
    refine lv_if_eq (tgt := 24) hx hb dX9_kept_12 (by decide) (fun c_17 => ?_) (fun c_17 => ?_)
    · have hf := pif_t c_17 hf
      refine lv_iconst (v := (-1)) hx hb dX9_kept_24 (by decide) ?_
      obtain ⟨e1, e2⟩ := pr_some hf
      exact W.iret (v := (-1)) hx hb hr (fun t ht hW => ⟨⟨(-1), (), rfl, e1, Rp.end e2 hp hK ht hW⟩, hp.2.2.F ht⟩) hp.2.2.2.2 dX9_kept_25
    · have hf := pif_f c_17 hf
      refine lv_aload_n hx hb dX9_kept_15 rfl (lv_at hl 0 rfl) ?_
      refine lv_iload_n hx hb dX9_kept_16 rfl (lv_at hl 1 rfl) ?_
      refine lv_iload_n hx hb dX9_kept_17 rfl (lv_at hl 2 rfl) ?_
      obtain ⟨r_20, st_18, hc_19, hf⟩ := bnd_some hf
      refine r_ci hp hA (va_runV (As := [.int p0, .int p1]) (rest := []) ⟨hx, hb, hml, hown, hts⟩ (c_X9_isRead l dC dI h0 ar ca p0 p1 _ _ _ hc_19 _) (cwV 2 hts gq_X9_kept_X9_isRead_308 rfl rfl rfl (by decide +kernel) ⟨Nat.le_of_ble_eq_true rfl, Nat.le_of_ble_eq_true rfl⟩) ⟨Pr.blind _, va_recv hK hp.1 (ci := 11) (q0 := 0) rfl rfl, r_pre hp hK hN hZ hA⟩ rfl rfl hl.1 rfl (lv_room (Nat.le_of_ble_eq_true rfl)) dX9_kept_18 ⟨Nat.le_of_ble_eq_true rfl, Nat.le_of_ble_eq_true rfl⟩) (fun H locs hp => ?_)
      refine lv_if_ne (tgt := 26) hx hb dX9_kept_21 (by decide) (fun c_21 => ?_) (fun c_21 => ?_)
      · have hf := pif_f c_21 hf
        refine lv_iconst (v := 0) hx hb dX9_kept_26 (by decide) ?_
        refine lv_istore_n (lv' := [(3, .int 0), (0, .ref h0), (1, .int p0), (2, .int p1)]) hx hb dX9_kept_27 rfl hl (by decide) rfl (fun ls hl => ?_)
        refine lv_iconst (v := 0) hx hb dX9_kept_28 (by decide) ?_
        refine lv_istore (lv' := [(4, .int 0), (3, .int 0), (0, .ref h0), (1, .int p0), (2, .int p1)]) hx hb dX9_kept_29 hl (by decide) rfl (fun ls hl => ?_)
        exact J31 fuel (p1, 0, 0, st_18) _ _ _ ⟨hf, hp, (lv_sub hl [2, 4, 1, 0] rfl)⟩
      · have hf := pif_t c_21 hf
        refine lv_iconst (v := (-1)) hx hb dX9_kept_24 (by decide) ?_
        obtain ⟨e1, e2⟩ := pr_some hf
        exact W.iret (v := (-1)) hx hb hr (fun t ht hW => ⟨⟨(-1), (), rfl, e1, Rp.end e2 hp hK ht hW⟩, hp.2.2.F ht⟩) hp.2.2.2.2 dX9_kept_25
noncomputable def x9_pieceOf_2  : Nat → Int32 → Int32 → RS → Option (Int32 × RS)
  | 0 => fun _ _ _ => none
  | n + 1 => fun l1 l2 st => pif ((gI st 41) ≤ l2) (some (((-1) : Int32), st)) (gd (vp_in l2 64) (pif ((gF st 42 l2.toNatClampNeg) = l1) (some (l2, st)) (nam (l2 + 1) (fun v_4 => (x9_pieceOf_2 n) l1 v_4 st))))
theorem x9_pieceOf_2_z  (l1 : Int32) (l2 : Int32) (st : RS) : x9_pieceOf_2  0 l1 l2 st = none := rfl
theorem x9_pieceOf_2_s  (n : Nat) (l1 : Int32) (l2 : Int32) (st : RS) : x9_pieceOf_2  (n + 1) l1 l2 st = pif ((gI st 41) ≤ l2) (some (((-1) : Int32), st)) (gd (vp_in l2 64) (pif ((gF st 42 l2.toNatClampNeg) = l1) (some (l2, st)) (nam (l2 + 1) (fun v_4 => (x9_pieceOf_2 n) l1 v_4 st)))) := rfl
noncomputable def x9_pieceOf (p0 : Int32) (st : RS) : Option (Int32 × RS) := x9_pieceOf_2  fuel p0 0 st
def wq_X9_pieceOf : List Cond := .code yX9_pieceOf cX9_pieceOf 3 (some .int) :: (([.fieldLink RX9 291 "RecordBenchModel" "pieces" "I", .fieldLink RX9 84 "RecordBenchModel" "pieceNumber" "[I"] : List Cond) ++ wsX90)
set_option maxHeartbeats 4000000 in
set_option maxRecDepth 100000 in
theorem c_X9_pieceOf (l : Launch) (dC : Nat → ClassId) (dI : Nat → Nat → Nat) (h0 : Nat) (ar : Nat → Nat) (ca : Nat → ClassId) (p0 : Int32) (st st' : RS) (r : Int32) (hf : x9_pieceOf p0 st = some (r, st')) (sz : Nat) : Met l yX9_pieceOf wq_X9_pieceOf ({ frames := 0, cells := 0, slots := 0, locals := 0 }) (va_Pc [.ref h0, .int p0] (Pr (dC, dI) (rT ca) [] (RW h0 ar ca st) sz)) (va_Qi (fun r' (_ : Unit) => r' = r) (Bq (dC, dI) (fun _ => RW h0 ar ca st') (fun _ => []) (va_A (RW h0 ar ca st) sz)) (va_A (RW h0 ar ca st) sz)) 0 0 (va_A (RW h0 ar ca st) sz) := by
  refine Met.ofW (cc := cX9_pieceOf) (maxL := 3) (ret := (some .int)) (by decide) rfl ?_
  intro p e s m args below meth c s₁ B hml hv
  obtain ⟨rfl, hsz, hP, hK, hD0, hN, hZ, hR⟩ := hv
  have hx := B.exec
  have hb := B.bytes
  have hr := B.returns
  have hts := atoms_spec (ws := wq_X9_pieceOf) B.pre
  have hown : s.vm.findClass RX9 = some m.cls := findClass_of_methodNamed B.named
  have iRX9 : ∀ w ∈ u_ws RX9 TX9 60, w ∈ wq_X9_pieceOf := fun w h => List.mem_cons_of_mem _ (List.mem_append_right _ h)
  subst hsz
  have hp : Rp (dC, dI) h0 ar ca (va_A (RW h0 ar ca st) s.heap.size) s.heap st s.heap [] := ⟨hP, hD0.self, va_S.rf⟩
  generalize hAe : va_A (RW h0 ar ca st) s.heap.size = A at hp hZ ⊢
  have hA : ∀ q : Nat, s.heap.size ≤ q → A q := fun q h => by rw [← hAe]; exact Or.inr h
  have hl := lv_entry ([.ref h0, .int p0]) (n := 3) (Nat.le_of_ble_eq_true rfl)
  rw [lg_entry_eq]
  generalize (lg_sl ([.ref h0, .int p0]) ++ List.replicate (3 - (lg_sl ([.ref h0, .int p0])).length) Slot.unset).toArray = ls at hl ⊢
  have hl : lv_has ls 3 [(0, .ref h0), (1, .int p0)] := hl
  refine W_lp (fun n2 (u : Int32 × Int32 × RS) H locs ls => match u with | (l1, l2, st) => x9_pieceOf_2 n2 l1 l2 st = some (r, st') ∧ Rp (dC, dI) h0 ar ca A s.heap st H locs ∧ lv_has ls 3 [(0, .ref h0), (1, .int l1), (2, .int l2)]) (fun (u : Int32 × Int32 × RS) ls => match u with | (l1, l2, st) => F0 m 2 ls []) ?_ ?_ (fun J2 => ?_)
  · intro u H locs ls hu
    obtain ⟨l1, l2, st⟩ := u
    obtain ⟨hf, hp, hl⟩ := hu
    rw [x9_pieceOf_2_z] at hf
    cases hf
  · intro n2 ih2 u H locs ls hu
    obtain ⟨l1, l2, st⟩ := u
    obtain ⟨hf, hp, hl⟩ := hu
    show W p l e _ s m _ below meth c _ _ _ _ _ (F0 m 2 ls [])
    rw [x9_pieceOf_2_s] at hf
    refine lv_iload_n hx hb dX9_pieceOf_2 rfl (lv_at hl 2 rfl) ?_
    refine lv_aload_n hx hb dX9_pieceOf_3 rfl (lv_at hl 0 rfl) ?_
    refine r_gi hx hb hts iRX9 hown hK hp 41 (by decide) rfl (hts (.fieldLink RX9 291 "RecordBenchModel" "pieces" "I") (by decide +kernel)) dX9_pieceOf_4 ?_
    refine lv_icmp_ge (tgt := 28) hx hb dX9_pieceOf_7 (by decide) (fun c_1 => ?_) (fun c_1 => ?_)
    · have hf := pif_t c_1 hf
      refine lv_iconst (v := (-1)) hx hb dX9_pieceOf_28 (by decide) ?_
      obtain ⟨e1, e2⟩ := pr_some hf
      exact W.iret (v := (-1)) hx hb hr (fun t ht hW => ⟨⟨(-1), (), rfl, e1, Rp.end e2 hp hK ht hW⟩, hp.2.2.F ht⟩) hp.2.2.2.2 dX9_pieceOf_29
    · have hf := pif_f c_1 hf
      refine lv_aload_n hx hb dX9_pieceOf_10 rfl (lv_at hl 0 rfl) ?_
      refine r_ga hx hb hts iRX9 hown hK hp 42 (by decide) (by decide) (hts (.fieldLink RX9 84 "RecordBenchModel" "pieceNumber" "[I") (by decide +kernel)) dX9_pieceOf_11 ?_
      refine lv_iload_n hx hb dX9_pieceOf_14 rfl (lv_at hl 2 rfl) ?_
      obtain ⟨g_2, hf⟩ := gd_some hf
      refine r_ai (n := 64) hx hb hK hp 13 42 rfl rfl rfl g_2 dX9_pieceOf_15 ?_
      refine lv_iload_n hx hb dX9_pieceOf_16 rfl (lv_at hl 1 rfl) ?_
      refine lv_icmp_ne (tgt := 22) hx hb dX9_pieceOf_17 (by decide) (fun c_3 => ?_) (fun c_3 => ?_)
      · have hf := pif_f c_3 hf
        obtain ⟨v_4, ev_4, hf⟩ := nam_some hf
        refine lv_iinc (v := v_4) (lv' := [(2, .int v_4), (0, .ref h0), (1, .int l1)]) hx hb dX9_pieceOf_22 hl (k := 2) rfl ev_4.symm (by decide) rfl (fun ls hl => ?_)
        refine lv_goto (tgt := 2) hx hb dX9_pieceOf_25 (by decide) ?_
        exact ih2 (l1, v_4, st) _ _ _ ⟨hf, hp, (lv_sub hl [1, 2, 0] rfl)⟩
      · have hf := pif_t c_3 hf
        refine lv_iload_n hx hb dX9_pieceOf_20 rfl (lv_at hl 2 rfl) ?_
        obtain ⟨e1, e2⟩ := pr_some hf
        exact W.iret (v := l2) hx hb hr (fun t ht hW => ⟨⟨l2, (), rfl, e1, Rp.end e2 hp hK ht hW⟩, hp.2.2.F ht⟩) hp.2.2.2.2 dX9_pieceOf_21
  unfold x9_pieceOf at hf
  refine lv_iconst (v := 0) hx hb dX9_pieceOf_0 (by decide) ?_
  refine lv_istore_n (lv' := [(2, .int 0), (0, .ref h0), (1, .int p0)]) hx hb dX9_pieceOf_1 rfl hl (by decide) rfl (fun ls hl => ?_)
  exact J2 fuel (p0, 0, st) _ _ _ ⟨hf, hp, (lv_sub hl [1, 2, 0] rfl)⟩
noncomputable def x9_get_35  (l1 : Int32) (l2 : Int32) (l3 : Int32) (l4 : Int32) (st : RS) : Option (Int64 × RS) := bnd (x9_isRead l1 l2 st) (fun r_3 st_1 => pif (r_3 = 0) (some (((-9000000000000000000) : Int64), st_1)) (bnd (x9_pieceOf l3 st_1) (fun r_7 st_5 => pif (l4 = 0) (pif (r_7 = (-1)) (some ((0 : Int64), st_5)) (some ((1 : Int64), st_5))) (pif (r_7 = (-1)) (bnd (x9_plain l2 l3 st_5) (fun r_17 st_15 => some (r_17, st_15))) (gd (vp_in ((31 * l2) + l3) 248) (pif ((gF st_5 1 ((31 * l2) + l3).toNatClampNeg) ≤ 4) (gd (vp_in r_7 64) (some (gL st_5 46 r_7.toNatClampNeg, st_5))) (gd (vp_in r_7 64) (gd (vp_in r_7 64) (some (((gF st_5 45 r_7.toNatClampNeg) - (gF st_5 44 r_7.toNatClampNeg)).toInt64, st_5))))))))))
noncomputable def x9_get (p0 : Int32) (p1 : Int32) (p2 : Int32) (p3 : Int32) (st : RS) : Option (Int64 × RS) := bnd (x9_isRecord p0 st) (fun r_21 st_19 => pif (r_21 = 0) (some (((-9000000000000000000) : Int64), st_19)) (bnd (x9_isMake p1 st_19) (fun r_25 st_23 => pif (r_25 = 0) (some (((-9000000000000000000) : Int64), st_23)) (bnd (x9_has p1 p2 st_23) (fun r_29 st_27 => pif (r_29 = 0) (some (((-9000000000000000000) : Int64), st_27)) (pif (p3 = 0) (x9_get_35  p0 p1 p2 p3 st_27) (pif (p3 = 1) (x9_get_35  p0 p1 p2 p3 st_27) (some (((-9000000000000000000) : Int64), st_27)))))))))
def wq_X9_get : List Cond := .code yX9_get cX9_get 6 (some .long) :: (([.constantLong RX9 311 (-9000000000000000000), .fieldLink RX9 13 "RecordBenchModel" "kind" "[I", .fieldLink RX9 96 "RecordBenchModel" "pieceValue" "[J", .fieldLink RX9 93 "RecordBenchModel" "pieceTo" "[I", .fieldLink RX9 90 "RecordBenchModel" "pieceFrom" "[I", .methodLink RX9 308 yX9_isRead, .instanceMethod yX9_isRead, .selects RX9 yX9_isRead yX9_isRead, .initialized RX9, .methodLink RX9 313 yX9_pieceOf, .instanceMethod yX9_pieceOf, .selects RX9 yX9_pieceOf yX9_pieceOf, .methodLink RX9 317 yX9_plain, .instanceMethod yX9_plain, .selects RX9 yX9_plain yX9_plain, .methodLink RX9 249 yX9_isRecord, .static yX9_isRecord, .methodLink RX9 239 yX9_isMake, .instanceMethod yX9_isMake, .selects RX9 yX9_isMake yX9_isMake, .methodLink RX9 246 yX9_has, .instanceMethod yX9_has, .selects RX9 yX9_has yX9_has, .code yX9_isRead cX9_isRead 3 (some .boolean), .fieldLink RX9 78 "RecordBenchModel" "long0" "[I", .methodLink RX9 302 yX9_loads, .instanceMethod yX9_loads, .selects RX9 yX9_loads yX9_loads, .methodLink RX9 305 yX9_reads, .instanceMethod yX9_reads, .selects RX9 yX9_reads yX9_reads, .code yX9_loads cX9_loads 3 none, .fieldLink RX9 81 "RecordBenchModel" "row" "[I", .fieldLink RX9 75 "RecordBenchModel" "bytes" "[I", .code yX9_reads cX9_reads 7 (some .boolean), .fieldLink RX9 285 "RecordBenchModel" "readFault" "I", .fieldLink RX9 288 "RecordBenchModel" "readPlace" "I", .fieldLink RX9 291 "RecordBenchModel" "pieces" "I", .fieldLink RX9 102 "RecordBenchModel" "pileAt" "[I", .fieldLink RX9 105 "RecordBenchModel" "pileEnd" "[I", .fieldLink RX9 99 "RecordBenchModel" "pileMake" "[I", .fieldLink RX9 108 "RecordBenchModel" "pileLast" "[I", .fieldLink RX9 111 "RecordBenchModel" "pileGroups" "[I", .fieldLink RX9 260 "RecordBenchModel" "pieceFault" "I", .fieldLink RX9 84 "RecordBenchModel" "pieceNumber" "[I", .fieldLink RX9 263 "RecordBenchModel" "number" "I", .fieldLink RX9 87 "RecordBenchModel" "pieceBegin" "[I", .fieldLink RX9 275 "RecordBenchModel" "from" "I", .fieldLink RX9 278 "RecordBenchModel" "to" "I", .fieldLink RX9 273 "RecordBenchModel" "value" "J", .fieldLink RX9 17 "RecordBenchModel" "group" "[I", .fieldLink RX9 20 "RecordBenchModel" "inner" "[I", .methodLink RX9 294 yX9_opens, .instanceMethod yX9_opens, .selects RX9 yX9_opens yX9_opens, .methodLink RX9 298 yX9_piece, .instanceMethod yX9_piece, .selects RX9 yX9_piece yX9_piece, .code yX9_opens cX9_opens 5 none, .code yX9_has cX9_has 3 (some .boolean), .fieldLink RX9 36 "RecordBenchModel" "isThere" "[Z", .code yX9_piece cX9_piece 14 none, .fieldLink RX9 252 "RecordBenchModel" "varint" "J", .fieldLink RX9 267 "RecordBenchModel" "isLong" "Z", .constantLong RX9 271 (30), .fieldLink RX9 257 "RecordBenchModel" "varintEnd" "I", .methodLink RX9 281 yX9_isText, .static yX9_isText, .methodLink RX9 229 yX9_isOf, .static yX9_isOf, .methodLink RX9 265 yX9_varint, .instanceMethod yX9_varint, .selects RX9 yX9_varint yX9_varint, .code yX9_isText cX9_isText 4 (some .boolean), .code yX9_isOf cX9_isOf 3 (some .boolean), .constantLong RX9 219 (-2147483648), .constantLong RX9 221 (2147483647), .constantLong RX9 215 (-128), .constantLong RX9 217 (127), .code yX9_varint cX9_varint 6 (some .boolean), .constantLong RX9 255 (128), .code yX9_pieceOf cX9_pieceOf 3 (some .int), .code yX9_plain cX9_plain 3 (some .long), .fieldLink RX9 30 "RecordBenchModel" "plain" "[J", .methodLink RX9 242 yX9_isField, .instanceMethod yX9_isField, .selects RX9 yX9_isField yX9_isField, .code yX9_isField cX9_isField 3 (some .boolean), .code yX9_isMake cX9_isMake 2 (some .boolean), .fieldLink RX9 7 "RecordBenchModel" "told" "[Z", .code yX9_isRecord cX9_isRecord 1 (some .boolean)] : List Cond) ++ wsX90)
theorem gs_wq_X9_get_wsX90 : GoodIn wq_X9_get wsX90 := fun w h => ⟨List.mem_cons_of_mem _ (List.mem_append_right _ h), (gt_wsX90 w h).2⟩
set_option maxRecDepth 20000 in
theorem gq_X9_get_X9_isRead_308 : GoodIn wq_X9_get (wsV RX9 308 RX9 yX9_isRead wq_X9_isRead) := goodIn_app (goodIn_r _ [6, 7, 8, 9] rfl rfl) (goodIn_ca (goodIn_r _ [24, 25, 26, 27, 28, 9, 29, 30, 31, 32, 33, 34, 35, 36, 37, 38, 39, 40, 41, 42, 43, 44, 45, 46, 47, 5, 48, 4, 49, 3, 50, 51, 2, 52, 53, 54, 55, 21, 22, 23, 56, 57, 58, 59, 60, 61, 62, 63, 64, 65, 66, 67, 68, 69, 70, 71, 72, 73, 74, 75, 76, 77, 78, 79, 80, 81] rfl rfl) gs_wq_X9_get_wsX90)
set_option maxRecDepth 20000 in
theorem gq_X9_get_X9_pieceOf_313 : GoodIn wq_X9_get (wsV RX9 313 RX9 yX9_pieceOf wq_X9_pieceOf) := goodIn_app (goodIn_r _ [10, 11, 12, 9] rfl rfl) (goodIn_ca (goodIn_r _ [82, 38, 45] rfl rfl) gs_wq_X9_get_wsX90)
set_option maxRecDepth 20000 in
theorem gq_X9_get_X9_plain_317 : GoodIn wq_X9_get (wsV RX9 317 RX9 yX9_plain wq_X9_plain) := goodIn_app (goodIn_r _ [13, 14, 15, 9] rfl rfl) (goodIn_ca (goodIn_r _ [83, 2, 84, 85, 86, 87, 9, 21, 22, 23, 88, 61, 18, 19, 20, 89, 90, 60] rfl rfl) gs_wq_X9_get_wsX90)
set_option maxRecDepth 20000 in
theorem gq_X9_get_X9_isRecord_249 : GoodIn wq_X9_get (wsS RX9 249 yX9_isRecord wq_X9_isRecord) := goodIn_app (goodIn_r _ [16, 17, 9] rfl rfl) (goodIn_r _ [91] rfl rfl)
set_option maxRecDepth 20000 in
theorem gq_X9_get_X9_isMake_239 : GoodIn wq_X9_get (wsV RX9 239 RX9 yX9_isMake wq_X9_isMake) := goodIn_app (goodIn_r _ [18, 19, 20, 9] rfl rfl) (goodIn_ca (goodIn_r _ [89, 90] rfl rfl) gs_wq_X9_get_wsX90)
set_option maxRecDepth 20000 in
theorem gq_X9_get_X9_has_246 : GoodIn wq_X9_get (wsV RX9 246 RX9 yX9_has wq_X9_has) := goodIn_app (goodIn_r _ [21, 22, 23, 9] rfl rfl) (goodIn_ca (goodIn_r _ [60, 61, 2] rfl rfl) gs_wq_X9_get_wsX90)
set_option maxHeartbeats 4000000 in
set_option maxRecDepth 100000 in
theorem c_X9_get (l : Launch) (dC : Nat → ClassId) (dI : Nat → Nat → Nat) (h0 : Nat) (ar : Nat → Nat) (ca : Nat → ClassId) (p0 : Int32) (p1 : Int32) (p2 : Int32) (p3 : Int32) (st st' : RS) (r : Int64) (hf : x9_get p0 p1 p2 p3 st = some (r, st')) (sz : Nat) : Met l yX9_get wq_X9_get ({ frames := 4, cells := 0, slots := 0, locals := 122 }) (va_Pc [.ref h0, .int p0, .int p1, .int p2, .int p3] (Pr (dC, dI) (rT ca) [] (RW h0 ar ca st) sz)) (va_Ql (fun r' (_ : Unit) => r' = r) (Bq (dC, dI) (fun _ => RW h0 ar ca st') (fun _ => []) (va_A (RW h0 ar ca st) sz)) (va_A (RW h0 ar ca st) sz)) 0 0 (va_A (RW h0 ar ca st) sz) := by
  refine Met.ofW (cc := cX9_get) (maxL := 6) (ret := (some .long)) (by decide) rfl ?_
  intro p e s m args below meth c s₁ B hml hv
  obtain ⟨rfl, hsz, hP, hK, hD0, hN, hZ, hR⟩ := hv
  have hx := B.exec
  have hb := B.bytes
  have hr := B.returns
  have hts := atoms_spec (ws := wq_X9_get) B.pre
  have hown : s.vm.findClass RX9 = some m.cls := findClass_of_methodNamed B.named
  have iRX9 : ∀ w ∈ u_ws RX9 TX9 60, w ∈ wq_X9_get := fun w h => List.mem_cons_of_mem _ (List.mem_append_right _ h)
  subst hsz
  have hp : Rp (dC, dI) h0 ar ca (va_A (RW h0 ar ca st) s.heap.size) s.heap st s.heap [] := ⟨hP, hD0.self, va_S.rf⟩
  generalize hAe : va_A (RW h0 ar ca st) s.heap.size = A at hp hZ ⊢
  have hA : ∀ q : Nat, s.heap.size ≤ q → A q := fun q h => by rw [← hAe]; exact Or.inr h
  have hl := lv_entry ([.ref h0, .int p0, .int p1, .int p2, .int p3]) (n := 6) (Nat.le_of_ble_eq_true rfl)
  rw [lg_entry_eq]
  generalize (lg_sl ([.ref h0, .int p0, .int p1, .int p2, .int p3]) ++ List.replicate (6 - (lg_sl ([.ref h0, .int p0, .int p1, .int p2, .int p3])).length) Slot.unset).toArray = ls at hl ⊢
  have hl : lv_has ls 6 [(0, .ref h0), (1, .int p0), (2, .int p1), (3, .int p2), (4, .int p3)] := hl
  refine W_blk (fun (u : Int32 × Int32 × Int32 × Int32 × RS) H locs ls => match u with | (l1, l2, l3, l4, st) => x9_get_35 l1 l2 l3 l4 st = some (r, st') ∧ Rp (dC, dI) h0 ar ca A s.heap st H locs ∧ lv_has ls 6 [(0, .ref h0), (1, .int l1), (2, .int l2), (3, .int l3), (4, .int l4)]) (fun (u : Int32 × Int32 × Int32 × Int32 × RS) ls => match u with | (l1, l2, l3, l4, st) => F0 m 35 ls []) ?_ (fun J35 => ?_)
  · intro u H locs ls hu
    obtain ⟨l1, l2, l3, l4, st⟩ := u
    obtain ⟨hf, hp, hl⟩ := hu
    show W p l e _ s m _ below meth c _ _ _ _ _ (F0 m 35 ls [])
    unfold x9_get_35 at hf
    refine lv_aload_n hx hb dX9_get_35 rfl (lv_at hl 0 rfl) ?_
    refine lv_iload_n hx hb dX9_get_36 rfl (lv_at hl 1 rfl) ?_
    refine lv_iload_n hx hb dX9_get_37 rfl (lv_at hl 2 rfl) ?_
    obtain ⟨r_3, st_1, hc_2, hf⟩ := bnd_some hf
    refine r_ci hp hA (va_runV (As := [.int l1, .int l2]) (rest := []) ⟨hx, hb, hml, hown, hts⟩ (c_X9_isRead l dC dI h0 ar ca l1 l2 _ _ _ hc_2 _) (cwV 2 hts gq_X9_get_X9_isRead_308 rfl rfl rfl (by decide +kernel) ⟨Nat.le_of_ble_eq_true rfl, Nat.le_of_ble_eq_true rfl⟩) ⟨Pr.blind _, va_recv hK hp.1 (ci := 11) (q0 := 0) rfl rfl, r_pre hp hK hN hZ hA⟩ rfl rfl hl.1 rfl (lv_room (Nat.le_of_ble_eq_true rfl)) dX9_get_38 ⟨Nat.le_of_ble_eq_true rfl, Nat.le_of_ble_eq_true rfl⟩) (fun H locs hp => ?_)
    refine lv_if_ne (tgt := 48) hx hb dX9_get_41 (by decide) (fun c_4 => ?_) (fun c_4 => ?_)
    · have hf := pif_f c_4 hf
      refine lv_aload_n hx hb dX9_get_48 rfl (lv_at hl 0 rfl) ?_
      refine lv_iload_n hx hb dX9_get_49 rfl (lv_at hl 3 rfl) ?_
      obtain ⟨r_7, st_5, hc_6, hf⟩ := bnd_some hf
      refine r_ci hp hA (va_runV (As := [.int l3]) (rest := []) ⟨hx, hb, hml, hown, hts⟩ (c_X9_pieceOf l dC dI h0 ar ca l3 _ _ _ hc_6 _) (cwV 1 hts gq_X9_get_X9_pieceOf_313 rfl rfl rfl (by decide +kernel) ⟨Nat.le_of_ble_eq_true rfl, Nat.le_of_ble_eq_true rfl⟩) ⟨Pr.blind _, va_recv hK hp.1 (ci := 11) (q0 := 0) rfl rfl, r_pre hp hK hN hZ hA⟩ rfl rfl hl.1 rfl (lv_room (Nat.le_of_ble_eq_true rfl)) dX9_get_50 ⟨Nat.le_of_ble_eq_true rfl, Nat.le_of_ble_eq_true rfl⟩) (fun H locs hp => ?_)
      refine lv_istore (lv' := [(5, .int r_7), (0, .ref h0), (1, .int l1), (2, .int l2), (3, .int l3), (4, .int l4)]) hx hb dX9_get_53 hl (by decide) rfl (fun ls hl => ?_)
      refine lv_iload hx hb dX9_get_55 (lv_at hl 5 rfl) ?_
      refine lv_if_ne (tgt := 72) hx hb dX9_get_57 (by decide) (fun c_8 => ?_) (fun c_8 => ?_)
      · have hf := pif_f c_8 hf
        refine lv_iload hx hb dX9_get_72 (lv_at hl 0 rfl) ?_
        refine lv_iconst (v := (-1)) hx hb dX9_get_74 (by decide) ?_
        refine lv_icmp_ne (tgt := 85) hx hb dX9_get_75 (by decide) (fun c_9 => ?_) (fun c_9 => ?_)
        · have hf := pif_f c_9 hf
          refine lv_aload_n hx hb dX9_get_85 rfl (lv_at hl 1 rfl) ?_
          refine r_ga hx hb hts iRX9 hown hK hp 1 (by decide) (by decide) (hts (.fieldLink RX9 13 "RecordBenchModel" "kind" "[I") (by decide +kernel)) dX9_get_86 ?_
          refine lv_bipush (v := 31) hx hb dX9_get_89 (by decide) ?_
          refine lv_iload_n hx hb dX9_get_91 rfl (lv_at hl 3 rfl) ?_
          refine lv_imul hx hb dX9_get_92 ?_
          refine lv_iload_n hx hb dX9_get_93 rfl (lv_at hl 4 rfl) ?_
          refine lv_iadd hx hb dX9_get_94 ?_
          obtain ⟨g_10, hf⟩ := gd_some hf
          refine r_ai (n := 248) hx hb hK hp 1 1 rfl rfl rfl g_10 dX9_get_95 ?_
          refine lv_iconst (v := 4) hx hb dX9_get_96 (by decide) ?_
          refine lv_icmp_le (tgt := 119) hx hb dX9_get_97 (by decide) (fun c_11 => ?_) (fun c_11 => ?_)
          · have hf := pif_t c_11 hf
            refine lv_aload_n hx hb dX9_get_119 rfl (lv_at hl 1 rfl) ?_
            refine r_ga hx hb hts iRX9 hown hK hp 46 (by decide) (by decide) (hts (.fieldLink RX9 96 "RecordBenchModel" "pieceValue" "[J") (by decide +kernel)) dX9_get_120 ?_
            refine lv_iload hx hb dX9_get_123 (lv_at hl 0 rfl) ?_
            obtain ⟨g_12, hf⟩ := gd_some hf
            refine r_aj (n := 64) hx hb hK hp 17 46 rfl rfl rfl g_12 dX9_get_125 ?_
            obtain ⟨e1, e2⟩ := pr_some hf
            exact W.lret (v := gL st_5 46 r_7.toNatClampNeg) hx hb hr (fun t ht hW => ⟨⟨gL st_5 46 r_7.toNatClampNeg, (), rfl, e1, Rp.end e2 hp hK ht hW⟩, hp.2.2.F ht⟩) hp.2.2.2.2 dX9_get_126
          · have hf := pif_f c_11 hf
            refine lv_aload_n hx hb dX9_get_100 rfl (lv_at hl 1 rfl) ?_
            refine r_ga hx hb hts iRX9 hown hK hp 45 (by decide) (by decide) (hts (.fieldLink RX9 93 "RecordBenchModel" "pieceTo" "[I") (by decide +kernel)) dX9_get_101 ?_
            refine lv_iload hx hb dX9_get_104 (lv_at hl 0 rfl) ?_
            obtain ⟨g_13, hf⟩ := gd_some hf
            refine r_ai (n := 64) hx hb hK hp 16 45 rfl rfl rfl g_13 dX9_get_106 ?_
            refine lv_aload_n hx hb dX9_get_107 rfl (lv_at hl 1 rfl) ?_
            refine r_ga hx hb hts iRX9 hown hK hp 44 (by decide) (by decide) (hts (.fieldLink RX9 90 "RecordBenchModel" "pieceFrom" "[I") (by decide +kernel)) dX9_get_108 ?_
            refine lv_iload hx hb dX9_get_111 (lv_at hl 0 rfl) ?_
            obtain ⟨g_14, hf⟩ := gd_some hf
            refine r_ai (n := 64) hx hb hK hp 15 44 rfl rfl rfl g_14 dX9_get_113 ?_
            refine lv_isub hx hb dX9_get_114 ?_
            refine lv_i2l (v := ((gF st_5 45 r_7.toNatClampNeg) - (gF st_5 44 r_7.toNatClampNeg)).toInt64) hx hb dX9_get_115 rfl ?_
            refine lv_goto (tgt := 126) hx hb dX9_get_116 (by decide) ?_
            obtain ⟨e1, e2⟩ := pr_some hf
            exact W.lret (v := ((gF st_5 45 r_7.toNatClampNeg) - (gF st_5 44 r_7.toNatClampNeg)).toInt64) hx hb hr (fun t ht hW => ⟨⟨((gF st_5 45 r_7.toNatClampNeg) - (gF st_5 44 r_7.toNatClampNeg)).toInt64, (), rfl, e1, Rp.end e2 hp hK ht hW⟩, hp.2.2.F ht⟩) hp.2.2.2.2 dX9_get_126
        · have hf := pif_t c_9 hf
          refine lv_aload_n hx hb dX9_get_78 rfl (lv_at hl 1 rfl) ?_
          refine lv_iload_n hx hb dX9_get_79 rfl (lv_at hl 3 rfl) ?_
          refine lv_iload_n hx hb dX9_get_80 rfl (lv_at hl 4 rfl) ?_
          obtain ⟨r_17, st_15, hc_16, hf⟩ := bnd_some hf
          refine r_cl hp hA (va_runV (As := [.int l2, .int l3]) (rest := []) ⟨hx, hb, hml, hown, hts⟩ (c_X9_plain l dC dI h0 ar ca l2 l3 _ _ _ hc_16 _) (cwV 2 hts gq_X9_get_X9_plain_317 rfl rfl rfl (by decide +kernel) ⟨Nat.le_of_ble_eq_true rfl, Nat.le_of_ble_eq_true rfl⟩) ⟨Pr.blind _, va_recv hK hp.1 (ci := 11) (q0 := 0) rfl rfl, r_pre hp hK hN hZ hA⟩ rfl rfl hl.1 rfl (lv_room (Nat.le_of_ble_eq_true rfl)) dX9_get_81 ⟨Nat.le_of_ble_eq_true rfl, Nat.le_of_ble_eq_true rfl⟩) (fun H locs hp => ?_)
          obtain ⟨e1, e2⟩ := pr_some hf
          exact W.lret (v := r_17) hx hb hr (fun t ht hW => ⟨⟨r_17, (), rfl, e1, Rp.end e2 hp hK ht hW⟩, hp.2.2.F ht⟩) hp.2.2.2.2 dX9_get_84
      · have hf := pif_t c_8 hf
        refine lv_iload hx hb dX9_get_60 (lv_at hl 0 rfl) ?_
        refine lv_iconst (v := (-1)) hx hb dX9_get_62 (by decide) ?_
        refine lv_icmp_ne (tgt := 70) hx hb dX9_get_63 (by decide) (fun c_18 => ?_) (fun c_18 => ?_)
        · have hf := pif_f c_18 hf
          refine lv_lconst (v := 1) hx hb dX9_get_70 (by decide) ?_
          obtain ⟨e1, e2⟩ := pr_some hf
          exact W.lret (v := 1) hx hb hr (fun t ht hW => ⟨⟨1, (), rfl, e1, Rp.end e2 hp hK ht hW⟩, hp.2.2.F ht⟩) hp.2.2.2.2 dX9_get_71
        · have hf := pif_t c_18 hf
          refine lv_lconst (v := 0) hx hb dX9_get_66 (by decide) ?_
          refine lv_goto (tgt := 71) hx hb dX9_get_67 (by decide) ?_
          obtain ⟨e1, e2⟩ := pr_some hf
          exact W.lret (v := 0) hx hb hr (fun t ht hW => ⟨⟨0, (), rfl, e1, Rp.end e2 hp hK ht hW⟩, hp.2.2.F ht⟩) hp.2.2.2.2 dX9_get_71
    · have hf := pif_t c_4 hf
      refine lv_ldc2 hx hb hown (hts (.constantLong RX9 311 (-9000000000000000000)) (by decide +kernel)) dX9_get_44 ?_
      obtain ⟨e1, e2⟩ := pr_some hf
      exact W.lret (v := (-9000000000000000000)) hx hb hr (fun t ht hW => ⟨⟨(-9000000000000000000), (), rfl, e1, Rp.end e2 hp hK ht hW⟩, hp.2.2.F ht⟩) hp.2.2.2.2 dX9_get_47
  unfold x9_get at hf
  refine lv_iload_n hx hb dX9_get_0 rfl (lv_at hl 1 rfl) ?_
  obtain ⟨r_21, st_19, hc_20, hf⟩ := bnd_some hf
  refine r_ci hp hA (va_runS (As := [.int p0]) (rest := []) ⟨hx, hb, hml, hown, hts⟩ (c_X9_isRecord l dC dI h0 ar ca p0 _ _ _ hc_20 _) (cwS 1 hts gq_X9_get_X9_isRecord_249 rfl rfl rfl (by decide +kernel) ⟨Nat.le_of_ble_eq_true rfl, Nat.le_of_ble_eq_true rfl⟩) ⟨Pr.blind _, r_pre hp hK hN hZ hA⟩ rfl rfl hl.1 rfl (lv_room (Nat.le_of_ble_eq_true rfl)) dX9_get_1 ⟨Nat.le_of_ble_eq_true rfl, Nat.le_of_ble_eq_true rfl⟩) (fun H locs hp => ?_)
  refine lv_if_eq (tgt := 44) hx hb dX9_get_4 (by decide) (fun c_22 => ?_) (fun c_22 => ?_)
  · have hf := pif_t c_22 hf
    refine lv_ldc2 hx hb hown (hts (.constantLong RX9 311 (-9000000000000000000)) (by decide +kernel)) dX9_get_44 ?_
    obtain ⟨e1, e2⟩ := pr_some hf
    exact W.lret (v := (-9000000000000000000)) hx hb hr (fun t ht hW => ⟨⟨(-9000000000000000000), (), rfl, e1, Rp.end e2 hp hK ht hW⟩, hp.2.2.F ht⟩) hp.2.2.2.2 dX9_get_47
  · have hf := pif_f c_22 hf
    refine lv_aload_n hx hb dX9_get_7 rfl (lv_at hl 0 rfl) ?_
    refine lv_iload_n hx hb dX9_get_8 rfl (lv_at hl 2 rfl) ?_
    obtain ⟨r_25, st_23, hc_24, hf⟩ := bnd_some hf
    refine r_ci hp hA (va_runV (As := [.int p1]) (rest := []) ⟨hx, hb, hml, hown, hts⟩ (c_X9_isMake l dC dI h0 ar ca p1 _ _ _ hc_24 _) (cwV 1 hts gq_X9_get_X9_isMake_239 rfl rfl rfl (by decide +kernel) ⟨Nat.le_of_ble_eq_true rfl, Nat.le_of_ble_eq_true rfl⟩) ⟨Pr.blind _, va_recv hK hp.1 (ci := 11) (q0 := 0) rfl rfl, r_pre hp hK hN hZ hA⟩ rfl rfl hl.1 rfl (lv_room (Nat.le_of_ble_eq_true rfl)) dX9_get_9 ⟨Nat.le_of_ble_eq_true rfl, Nat.le_of_ble_eq_true rfl⟩) (fun H locs hp => ?_)
    refine lv_if_eq (tgt := 44) hx hb dX9_get_12 (by decide) (fun c_26 => ?_) (fun c_26 => ?_)
    · have hf := pif_t c_26 hf
      refine lv_ldc2 hx hb hown (hts (.constantLong RX9 311 (-9000000000000000000)) (by decide +kernel)) dX9_get_44 ?_
      obtain ⟨e1, e2⟩ := pr_some hf
      exact W.lret (v := (-9000000000000000000)) hx hb hr (fun t ht hW => ⟨⟨(-9000000000000000000), (), rfl, e1, Rp.end e2 hp hK ht hW⟩, hp.2.2.F ht⟩) hp.2.2.2.2 dX9_get_47
    · have hf := pif_f c_26 hf
      refine lv_aload_n hx hb dX9_get_15 rfl (lv_at hl 0 rfl) ?_
      refine lv_iload_n hx hb dX9_get_16 rfl (lv_at hl 2 rfl) ?_
      refine lv_iload_n hx hb dX9_get_17 rfl (lv_at hl 3 rfl) ?_
      obtain ⟨r_29, st_27, hc_28, hf⟩ := bnd_some hf
      refine r_ci hp hA (va_runV (As := [.int p1, .int p2]) (rest := []) ⟨hx, hb, hml, hown, hts⟩ (c_X9_has l dC dI h0 ar ca p1 p2 _ _ _ hc_28 _) (cwV 2 hts gq_X9_get_X9_has_246 rfl rfl rfl (by decide +kernel) ⟨Nat.le_of_ble_eq_true rfl, Nat.le_of_ble_eq_true rfl⟩) ⟨Pr.blind _, va_recv hK hp.1 (ci := 11) (q0 := 0) rfl rfl, r_pre hp hK hN hZ hA⟩ rfl rfl hl.1 rfl (lv_room (Nat.le_of_ble_eq_true rfl)) dX9_get_18 ⟨Nat.le_of_ble_eq_true rfl, Nat.le_of_ble_eq_true rfl⟩) (fun H locs hp => ?_)
      refine lv_if_eq (tgt := 44) hx hb dX9_get_21 (by decide) (fun c_30 => ?_) (fun c_30 => ?_)
      · have hf := pif_t c_30 hf
        refine lv_ldc2 hx hb hown (hts (.constantLong RX9 311 (-9000000000000000000)) (by decide +kernel)) dX9_get_44 ?_
        obtain ⟨e1, e2⟩ := pr_some hf
        exact W.lret (v := (-9000000000000000000)) hx hb hr (fun t ht hW => ⟨⟨(-9000000000000000000), (), rfl, e1, Rp.end e2 hp hK ht hW⟩, hp.2.2.F ht⟩) hp.2.2.2.2 dX9_get_47
      · have hf := pif_f c_30 hf
        refine lv_iload hx hb dX9_get_24 (lv_at hl 4 rfl) ?_
        refine lv_if_eq (tgt := 35) hx hb dX9_get_26 (by decide) (fun c_31 => ?_) (fun c_31 => ?_)
        · have hf := pif_t c_31 hf
          exact J35 (p0, p1, p2, p3, st_27) _ _ _ ⟨hf, hp, (lv_sub hl [0, 1, 2, 3, 4] rfl)⟩
        · have hf := pif_f c_31 hf
          refine lv_iload hx hb dX9_get_29 (lv_at hl 4 rfl) ?_
          refine lv_iconst (v := 1) hx hb dX9_get_31 (by decide) ?_
          refine lv_icmp_ne (tgt := 44) hx hb dX9_get_32 (by decide) (fun c_32 => ?_) (fun c_32 => ?_)
          · have hf := pif_f c_32 hf
            refine lv_ldc2 hx hb hown (hts (.constantLong RX9 311 (-9000000000000000000)) (by decide +kernel)) dX9_get_44 ?_
            obtain ⟨e1, e2⟩ := pr_some hf
            exact W.lret (v := (-9000000000000000000)) hx hb hr (fun t ht hW => ⟨⟨(-9000000000000000000), (), rfl, e1, Rp.end e2 hp hK ht hW⟩, hp.2.2.F ht⟩) hp.2.2.2.2 dX9_get_47
          · have hf := pif_t c_32 hf
            exact J35 (p0, p1, p2, p3, st_27) _ _ _ ⟨hf, hp, (lv_sub hl [0, 1, 2, 3, 4] rfl)⟩
