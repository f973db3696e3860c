theorem dX9_digit_0 : decode cX9_digit 0 = .ok (.aload_n 0, 1) := by decide +kernel
theorem dX9_digit_1 : decode cX9_digit 1 = .ok (.invokevirtual 150, 3) := by decide +kernel
theorem dX9_digit_10 : decode cX9_digit 10 = .ok (.aload_n 0, 1) := by decide +kernel
theorem dX9_digit_11 : decode cX9_digit 11 = .ok (.getfield 141, 3) := by decide +kernel
theorem dX9_digit_14 : decode cX9_digit 14 = .ok (.aload_n 0, 1) := by decide +kernel
theorem dX9_digit_15 : decode cX9_digit 15 = .ok (.getfield 162, 3) := by decide +kernel
theorem dX9_digit_18 : decode cX9_digit 18 = .ok (.if_icmp .ne 14, 3) := by decide +kernel
theorem dX9_digit_21 : decode cX9_digit 21 = .ok (.aload_n 0, 1) := by decide +kernel
theorem dX9_digit_22 : decode cX9_digit 22 = .ok (.iconst 1, 1) := by decide +kernel
theorem dX9_digit_23 : decode cX9_digit 23 = .ok (.aload_n 0, 1) := by decide +kernel
theorem dX9_digit_24 : decode cX9_digit 24 = .ok (.getfield 141, 3) := by decide +kernel
theorem dX9_digit_27 : decode cX9_digit 27 = .ok (.invokevirtual 154, 3) := by decide +kernel
theorem dX9_digit_30 : decode cX9_digit 30 = .ok (.iconst 0, 1) := by decide +kernel
theorem dX9_digit_31 : decode cX9_digit 31 = .ok (.ireturn, 1) := by decide +kernel
theorem dX9_digit_32 : decode cX9_digit 32 = .ok (.aload_n 0, 1) := by decide +kernel
theorem dX9_digit_33 : decode cX9_digit 33 = .ok (.dup, 1) := by decide +kernel
theorem dX9_digit_34 : decode cX9_digit 34 = .ok (.getfield 141, 3) := by decide +kernel
theorem dX9_digit_37 : decode cX9_digit 37 = .ok (.iconst 1, 1) := by decide +kernel
theorem dX9_digit_38 : decode cX9_digit 38 = .ok (.iadd, 1) := by decide +kernel
theorem dX9_digit_39 : decode cX9_digit 39 = .ok (.putfield 141, 3) := by decide +kernel
theorem dX9_digit_4 : decode cX9_digit 4 = .ok (.invokestatic 158, 3) := by decide +kernel
theorem dX9_digit_42 : decode cX9_digit 42 = .ok (.aload_n 0, 1) := by decide +kernel
theorem dX9_digit_43 : decode cX9_digit 43 = .ok (.aload_n 0, 1) := by decide +kernel
theorem dX9_digit_44 : decode cX9_digit 44 = .ok (.getfield 141, 3) := by decide +kernel
theorem dX9_digit_47 : decode cX9_digit 47 = .ok (.putfield 162, 3) := by decide +kernel
theorem dX9_digit_50 : decode cX9_digit 50 = .ok (.aload_n 0, 1) := by decide +kernel
theorem dX9_digit_51 : decode cX9_digit 51 = .ok (.getfield 39, 3) := by decide +kernel
theorem dX9_digit_54 : decode cX9_digit 54 = .ok (.aload_n 0, 1) := by decide +kernel
theorem dX9_digit_55 : decode cX9_digit 55 = .ok (.getfield 147, 3) := by decide +kernel
theorem dX9_digit_58 : decode cX9_digit 58 = .ok (.iaload, 1) := by decide +kernel
theorem dX9_digit_59 : decode cX9_digit 59 = .ok (.bipush 48, 2) := by decide +kernel
theorem dX9_digit_61 : decode cX9_digit 61 = .ok (.isub, 1) := by decide +kernel
theorem dX9_digit_62 : decode cX9_digit 62 = .ok (.ireturn, 1) := by decide +kernel
theorem dX9_digit_7 : decode cX9_digit 7 = .ok (.ifCond .eq 14, 3) := by decide +kernel
theorem dX9_ends_0 : decode cX9_ends 0 = .ok (.aload_n 0, 1) := by decide +kernel
theorem dX9_ends_1 : decode cX9_ends 1 = .ok (.getfield 141, 3) := by decide +kernel
theorem dX9_ends_11 : decode cX9_ends 11 = .ok (.aload_n 0, 1) := by decide +kernel
theorem dX9_ends_12 : decode cX9_ends 12 = .ok (.getfield 39, 3) := by decide +kernel
theorem dX9_ends_15 : decode cX9_ends 15 = .ok (.aload_n 0, 1) := by decide +kernel
theorem dX9_ends_16 : decode cX9_ends 16 = .ok (.getfield 141, 3) := by decide +kernel
theorem dX9_ends_19 : decode cX9_ends 19 = .ok (.iaload, 1) := by decide +kernel
theorem dX9_ends_20 : decode cX9_ends 20 = .ok (.invokestatic 158, 3) := by decide +kernel
theorem dX9_ends_23 : decode cX9_ends 23 = .ok (.ifCond .eq 12, 3) := by decide +kernel
theorem dX9_ends_26 : decode cX9_ends 26 = .ok (.aload_n 0, 1) := by decide +kernel
theorem dX9_ends_27 : decode cX9_ends 27 = .ok (.iconst 1, 1) := by decide +kernel
theorem dX9_ends_28 : decode cX9_ends 28 = .ok (.aload_n 0, 1) := by decide +kernel
theorem dX9_ends_29 : decode cX9_ends 29 = .ok (.getfield 141, 3) := by decide +kernel
theorem dX9_ends_32 : decode cX9_ends 32 = .ok (.invokevirtual 154, 3) := by decide +kernel
theorem dX9_ends_35 : decode cX9_ends 35 = .ok (.return_, 1) := by decide +kernel
theorem dX9_ends_4 : decode cX9_ends 4 = .ok (.aload_n 0, 1) := by decide +kernel
theorem dX9_ends_5 : decode cX9_ends 5 = .ok (.getfield 144, 3) := by decide +kernel
theorem dX9_ends_8 : decode cX9_ends 8 = .ok (.if_icmp .ge 27, 3) := by decide +kernel
theorem dX9_fail_0 : decode cX9_fail 0 = .ok (.aload_n 0, 1) := by decide +kernel
theorem dX9_fail_1 : decode cX9_fail 1 = .ok (.getfield 135, 3) := by decide +kernel
theorem dX9_fail_10 : decode cX9_fail 10 = .ok (.putfield 135, 3) := by decide +kernel
theorem dX9_fail_13 : decode cX9_fail 13 = .ok (.aload_n 0, 1) := by decide +kernel
theorem dX9_fail_14 : decode cX9_fail 14 = .ok (.iload_n 2, 1) := by decide +kernel
theorem dX9_fail_15 : decode cX9_fail 15 = .ok (.putfield 138, 3) := by decide +kernel
theorem dX9_fail_18 : decode cX9_fail 18 = .ok (.return_, 1) := by decide +kernel
theorem dX9_fail_4 : decode cX9_fail 4 = .ok (.ifCond .eq 4, 3) := by decide +kernel
theorem dX9_fail_7 : decode cX9_fail 7 = .ok (.return_, 1) := by decide +kernel
theorem dX9_fail_8 : decode cX9_fail 8 = .ok (.aload_n 0, 1) := by decide +kernel
theorem dX9_fail_9 : decode cX9_fail 9 = .ok (.iload_n 1, 1) := by decide +kernel
theorem dX9_isDigit_0 : decode cX9_isDigit 0 = .ok (.iload_n 0, 1) := by decide +kernel
theorem dX9_isDigit_1 : decode cX9_isDigit 1 = .ok (.bipush 48, 2) := by decide +kernel
theorem dX9_isDigit_12 : decode cX9_isDigit 12 = .ok (.iconst 1, 1) := by decide +kernel
theorem dX9_isDigit_13 : decode cX9_isDigit 13 = .ok (.goto 4, 3) := by decide +kernel
theorem dX9_isDigit_16 : decode cX9_isDigit 16 = .ok (.iconst 0, 1) := by decide +kernel
theorem dX9_isDigit_17 : decode cX9_isDigit 17 = .ok (.ireturn, 1) := by decide +kernel
theorem dX9_isDigit_3 : decode cX9_isDigit 3 = .ok (.if_icmp .lt 13, 3) := by decide +kernel
theorem dX9_isDigit_6 : decode cX9_isDigit 6 = .ok (.iload_n 0, 1) := by decide +kernel
theorem dX9_isDigit_7 : decode cX9_isDigit 7 = .ok (.bipush 57, 2) := by decide +kernel
theorem dX9_isDigit_9 : decode cX9_isDigit 9 = .ok (.if_icmp .gt 7, 3) := by decide +kernel
theorem dX9_isLetter_0 : decode cX9_isLetter 0 = .ok (.iload_n 0, 1) := by decide +kernel
theorem dX9_isLetter_1 : decode cX9_isLetter 1 = .ok (.bipush 97, 2) := by decide +kernel
theorem dX9_isLetter_12 : decode cX9_isLetter 12 = .ok (.iconst 1, 1) := by decide +kernel
theorem dX9_isLetter_13 : decode cX9_isLetter 13 = .ok (.goto 4, 3) := by decide +kernel
theorem dX9_isLetter_16 : decode cX9_isLetter 16 = .ok (.iconst 0, 1) := by decide +kernel
theorem dX9_isLetter_17 : decode cX9_isLetter 17 = .ok (.ireturn, 1) := by decide +kernel
theorem dX9_isLetter_3 : decode cX9_isLetter 3 = .ok (.if_icmp .lt 13, 3) := by decide +kernel
theorem dX9_isLetter_6 : decode cX9_isLetter 6 = .ok (.iload_n 0, 1) := by decide +kernel
theorem dX9_isLetter_7 : decode cX9_isLetter 7 = .ok (.bipush 122, 2) := by decide +kernel
theorem dX9_isLetter_9 : decode cX9_isLetter 9 = .ok (.if_icmp .gt 7, 3) := by decide +kernel
theorem dX9_kindOf_0 : decode cX9_kindOf 0 = .ok (.lload_n 1, 1) := by decide +kernel
theorem dX9_kindOf_1 : decode cX9_kindOf 1 = .ok (.aload_n 0, 1) := by decide +kernel
theorem dX9_kindOf_10 : decode cX9_kindOf 10 = .ok (.goto 70, 3) := by decide +kernel
theorem dX9_kindOf_13 : decode cX9_kindOf 13 = .ok (.lload_n 1, 1) := by decide +kernel
theorem dX9_kindOf_14 : decode cX9_kindOf 14 = .ok (.aload_n 0, 1) := by decide +kernel
theorem dX9_kindOf_15 : decode cX9_kindOf 15 = .ok (.getfield 57, 3) := by decide +kernel
theorem dX9_kindOf_18 : decode cX9_kindOf 18 = .ok (.lcmp, 1) := by decide +kernel
theorem dX9_kindOf_19 : decode cX9_kindOf 19 = .ok (.ifCond .ne 7, 3) := by decide +kernel
theorem dX9_kindOf_2 : decode cX9_kindOf 2 = .ok (.getfield 54, 3) := by decide +kernel
theorem dX9_kindOf_22 : decode cX9_kindOf 22 = .ok (.iconst 2, 1) := by decide +kernel
theorem dX9_kindOf_23 : decode cX9_kindOf 23 = .ok (.goto 57, 3) := by decide +kernel
theorem dX9_kindOf_26 : decode cX9_kindOf 26 = .ok (.lload_n 1, 1) := by decide +kernel
theorem dX9_kindOf_27 : decode cX9_kindOf 27 = .ok (.aload_n 0, 1) := by decide +kernel
theorem dX9_kindOf_28 : decode cX9_kindOf 28 = .ok (.getfield 60, 3) := by decide +kernel
theorem dX9_kindOf_31 : decode cX9_kindOf 31 = .ok (.lcmp, 1) := by decide +kernel
theorem dX9_kindOf_32 : decode cX9_kindOf 32 = .ok (.ifCond .ne 7, 3) := by decide +kernel
theorem dX9_kindOf_35 : decode cX9_kindOf 35 = .ok (.iconst 3, 1) := by decide +kernel
theorem dX9_kindOf_36 : decode cX9_kindOf 36 = .ok (.goto 44, 3) := by decide +kernel
theorem dX9_kindOf_39 : decode cX9_kindOf 39 = .ok (.lload_n 1, 1) := by decide +kernel
theorem dX9_kindOf_40 : decode cX9_kindOf 40 = .ok (.aload_n 0, 1) := by decide +kernel
theorem dX9_kindOf_41 : decode cX9_kindOf 41 = .ok (.getfield 63, 3) := by decide +kernel
theorem dX9_kindOf_44 : decode cX9_kindOf 44 = .ok (.lcmp, 1) := by decide +kernel
theorem dX9_kindOf_45 : decode cX9_kindOf 45 = .ok (.ifCond .ne 7, 3) := by decide +kernel
theorem dX9_kindOf_48 : decode cX9_kindOf 48 = .ok (.iconst 4, 1) := by decide +kernel
theorem dX9_kindOf_49 : decode cX9_kindOf 49 = .ok (.goto 31, 3) := by decide +kernel
theorem dX9_kindOf_5 : decode cX9_kindOf 5 = .ok (.lcmp, 1) := by decide +kernel
theorem dX9_kindOf_52 : decode cX9_kindOf 52 = .ok (.lload_n 1, 1) := by decide +kernel
theorem dX9_kindOf_53 : decode cX9_kindOf 53 = .ok (.aload_n 0, 1) := by decide +kernel
theorem dX9_kindOf_54 : decode cX9_kindOf 54 = .ok (.getfield 66, 3) := by decide +kernel
theorem dX9_kindOf_57 : decode cX9_kindOf 57 = .ok (.lcmp, 1) := by decide +kernel
theorem dX9_kindOf_58 : decode cX9_kindOf 58 = .ok (.ifCond .ne 7, 3) := by decide +kernel
theorem dX9_kindOf_6 : decode cX9_kindOf 6 = .ok (.ifCond .ne 7, 3) := by decide +kernel
theorem dX9_kindOf_61 : decode cX9_kindOf 61 = .ok (.iconst 5, 1) := by decide +kernel
theorem dX9_kindOf_62 : decode cX9_kindOf 62 = .ok (.goto 18, 3) := by decide +kernel
theorem dX9_kindOf_65 : decode cX9_kindOf 65 = .ok (.lload_n 1, 1) := by decide +kernel
theorem dX9_kindOf_66 : decode cX9_kindOf 66 = .ok (.aload_n 0, 1) := by decide +kernel
theorem dX9_kindOf_67 : decode cX9_kindOf 67 = .ok (.getfield 69, 3) := by decide +kernel
theorem dX9_kindOf_70 : decode cX9_kindOf 70 = .ok (.lcmp, 1) := by decide +kernel
theorem dX9_kindOf_71 : decode cX9_kindOf 71 = .ok (.ifCond .ne 8, 3) := by decide +kernel
theorem dX9_kindOf_74 : decode cX9_kindOf 74 = .ok (.bipush 6, 2) := by decide +kernel
theorem dX9_kindOf_76 : decode cX9_kindOf 76 = .ok (.goto 4, 3) := by decide +kernel
theorem dX9_kindOf_79 : decode cX9_kindOf 79 = .ok (.iconst (-1), 1) := by decide +kernel
theorem dX9_kindOf_80 : decode cX9_kindOf 80 = .ok (.ireturn, 1) := by decide +kernel
theorem dX9_kindOf_9 : decode cX9_kindOf 9 = .ok (.iconst 1, 1) := by decide +kernel
theorem dX9_next_0 : decode cX9_next 0 = .ok (.aload_n 0, 1) := by decide +kernel
theorem dX9_next_1 : decode cX9_next 1 = .ok (.getfield 141, 3) := by decide +kernel
theorem dX9_next_11 : decode cX9_next 11 = .ok (.aload_n 0, 1) := by decide +kernel
theorem dX9_next_12 : decode cX9_next 12 = .ok (.getfield 39, 3) := by decide +kernel
theorem dX9_next_15 : decode cX9_next 15 = .ok (.aload_n 0, 1) := by decide +kernel
theorem dX9_next_16 : decode cX9_next 16 = .ok (.getfield 141, 3) := by decide +kernel
theorem dX9_next_19 : decode cX9_next 19 = .ok (.iaload, 1) := by decide +kernel
theorem dX9_next_20 : decode cX9_next 20 = .ok (.bipush 10, 2) := by decide +kernel
theorem dX9_next_22 : decode cX9_next 22 = .ok (.if_icmp .eq 17, 3) := by decide +kernel
theorem dX9_next_25 : decode cX9_next 25 = .ok (.aload_n 0, 1) := by decide +kernel
theorem dX9_next_26 : decode cX9_next 26 = .ok (.getfield 39, 3) := by decide +kernel
theorem dX9_next_29 : decode cX9_next 29 = .ok (.aload_n 0, 1) := by decide +kernel
theorem dX9_next_30 : decode cX9_next 30 = .ok (.getfield 141, 3) := by decide +kernel
theorem dX9_next_33 : decode cX9_next 33 = .ok (.iaload, 1) := by decide +kernel
theorem dX9_next_34 : decode cX9_next 34 = .ok (.bipush 32, 2) := by decide +kernel
theorem dX9_next_36 : decode cX9_next 36 = .ok (.if_icmp .ne 16, 3) := by decide +kernel
theorem dX9_next_39 : decode cX9_next 39 = .ok (.aload_n 0, 1) := by decide +kernel
theorem dX9_next_4 : decode cX9_next 4 = .ok (.aload_n 0, 1) := by decide +kernel
theorem dX9_next_40 : decode cX9_next 40 = .ok (.dup, 1) := by decide +kernel
theorem dX9_next_41 : decode cX9_next 41 = .ok (.getfield 141, 3) := by decide +kernel
theorem dX9_next_44 : decode cX9_next 44 = .ok (.iconst 1, 1) := by decide +kernel
theorem dX9_next_45 : decode cX9_next 45 = .ok (.iadd, 1) := by decide +kernel
theorem dX9_next_46 : decode cX9_next 46 = .ok (.putfield 141, 3) := by decide +kernel
theorem dX9_next_49 : decode cX9_next 49 = .ok (.goto (-49), 3) := by decide +kernel
theorem dX9_next_5 : decode cX9_next 5 = .ok (.getfield 144, 3) := by decide +kernel
theorem dX9_next_52 : decode cX9_next 52 = .ok (.aload_n 0, 1) := by decide +kernel
theorem dX9_next_53 : decode cX9_next 53 = .ok (.aload_n 0, 1) := by decide +kernel
theorem dX9_next_54 : decode cX9_next 54 = .ok (.getfield 141, 3) := by decide +kernel
theorem dX9_next_57 : decode cX9_next 57 = .ok (.putfield 147, 3) := by decide +kernel
theorem dX9_next_60 : decode cX9_next 60 = .ok (.aload_n 0, 1) := by decide +kernel
theorem dX9_next_61 : decode cX9_next 61 = .ok (.getfield 141, 3) := by decide +kernel
theorem dX9_next_64 : decode cX9_next 64 = .ok (.aload_n 0, 1) := by decide +kernel
theorem dX9_next_65 : decode cX9_next 65 = .ok (.getfield 144, 3) := by decide +kernel
theorem dX9_next_68 : decode cX9_next 68 = .ok (.if_icmp .ge 15, 3) := by decide +kernel
theorem dX9_next_71 : decode cX9_next 71 = .ok (.aload_n 0, 1) := by decide +kernel
theorem dX9_next_72 : decode cX9_next 72 = .ok (.getfield 39, 3) := by decide +kernel
theorem dX9_next_75 : decode cX9_next 75 = .ok (.aload_n 0, 1) := by decide +kernel
theorem dX9_next_76 : decode cX9_next 76 = .ok (.getfield 141, 3) := by decide +kernel
theorem dX9_next_79 : decode cX9_next 79 = .ok (.iaload, 1) := by decide +kernel
theorem dX9_next_8 : decode cX9_next 8 = .ok (.if_icmp .ge 44, 3) := by decide +kernel
theorem dX9_next_80 : decode cX9_next 80 = .ok (.goto 4, 3) := by decide +kernel
theorem dX9_next_83 : decode cX9_next 83 = .ok (.iconst (-1), 1) := by decide +kernel
theorem dX9_next_84 : decode cX9_next 84 = .ok (.ireturn, 1) := by decide +kernel
theorem dX9_number_0 : decode cX9_number 0 = .ok (.aload_n 0, 1) := by decide +kernel
theorem dX9_number_1 : decode cX9_number 1 = .ok (.invokevirtual 150, 3) := by decide +kernel
theorem dX9_number_10 : decode cX9_number 10 = .ok (.aload_n 0, 1) := by decide +kernel
theorem dX9_number_100 : decode cX9_number 100 = .ok (.bipush 48, 2) := by decide +kernel
theorem dX9_number_102 : decode cX9_number 102 = .ok (.isub, 1) := by decide +kernel
theorem dX9_number_103 : decode cX9_number 103 = .ok (.istore 4, 2) := by decide +kernel
theorem dX9_number_105 : decode cX9_number 105 = .ok (.aload_n 0, 1) := by decide +kernel
theorem dX9_number_106 : decode cX9_number 106 = .ok (.dup, 1) := by decide +kernel
theorem dX9_number_107 : decode cX9_number 107 = .ok (.getfield 141, 3) := by decide +kernel
theorem dX9_number_11 : decode cX9_number 11 = .ok (.getfield 141, 3) := by decide +kernel
theorem dX9_number_110 : decode cX9_number 110 = .ok (.iconst 1, 1) := by decide +kernel
theorem dX9_number_111 : decode cX9_number 111 = .ok (.iadd, 1) := by decide +kernel
theorem dX9_number_112 : decode cX9_number 112 = .ok (.putfield 141, 3) := by decide +kernel
theorem dX9_number_115 : decode cX9_number 115 = .ok (.goto (-80), 3) := by decide +kernel
theorem dX9_number_118 : decode cX9_number 118 = .ok (.aload_n 0, 1) := by decide +kernel
theorem dX9_number_119 : decode cX9_number 119 = .ok (.aload_n 0, 1) := by decide +kernel
theorem dX9_number_120 : decode cX9_number 120 = .ok (.getfield 141, 3) := by decide +kernel
theorem dX9_number_123 : decode cX9_number 123 = .ok (.putfield 162, 3) := by decide +kernel
theorem dX9_number_126 : decode cX9_number 126 = .ok (.iload 4, 2) := by decide +kernel
theorem dX9_number_128 : decode cX9_number 128 = .ok (.iload_n 2, 1) := by decide +kernel
theorem dX9_number_129 : decode cX9_number 129 = .ok (.if_icmp .lt 9, 3) := by decide +kernel
theorem dX9_number_132 : decode cX9_number 132 = .ok (.iload 4, 2) := by decide +kernel
theorem dX9_number_134 : decode cX9_number 134 = .ok (.iload_n 3, 1) := by decide +kernel
theorem dX9_number_135 : decode cX9_number 135 = .ok (.if_icmp .le 12, 3) := by decide +kernel
theorem dX9_number_138 : decode cX9_number 138 = .ok (.aload_n 0, 1) := by decide +kernel
theorem dX9_number_139 : decode cX9_number 139 = .ok (.iconst 2, 1) := by decide +kernel
theorem dX9_number_14 : decode cX9_number 14 = .ok (.aload_n 0, 1) := by decide +kernel
theorem dX9_number_140 : decode cX9_number 140 = .ok (.aload_n 0, 1) := by decide +kernel
theorem dX9_number_141 : decode cX9_number 141 = .ok (.getfield 147, 3) := by decide +kernel
theorem dX9_number_144 : decode cX9_number 144 = .ok (.invokevirtual 154, 3) := by decide +kernel
theorem dX9_number_147 : decode cX9_number 147 = .ok (.iload 4, 2) := by decide +kernel
theorem dX9_number_149 : decode cX9_number 149 = .ok (.ireturn, 1) := by decide +kernel
theorem dX9_number_15 : decode cX9_number 15 = .ok (.getfield 162, 3) := by decide +kernel
theorem dX9_number_18 : decode cX9_number 18 = .ok (.if_icmp .ne 14, 3) := by decide +kernel
theorem dX9_number_21 : decode cX9_number 21 = .ok (.aload_n 0, 1) := by decide +kernel
theorem dX9_number_22 : decode cX9_number 22 = .ok (.iconst 1, 1) := by decide +kernel
theorem dX9_number_23 : decode cX9_number 23 = .ok (.aload_n 0, 1) := by decide +kernel
theorem dX9_number_24 : decode cX9_number 24 = .ok (.getfield 141, 3) := by decide +kernel
theorem dX9_number_27 : decode cX9_number 27 = .ok (.invokevirtual 154, 3) := by decide +kernel
theorem dX9_number_30 : decode cX9_number 30 = .ok (.iconst 0, 1) := by decide +kernel
theorem dX9_number_31 : decode cX9_number 31 = .ok (.ireturn, 1) := by decide +kernel
theorem dX9_number_32 : decode cX9_number 32 = .ok (.iconst 0, 1) := by decide +kernel
theorem dX9_number_33 : decode cX9_number 33 = .ok (.istore 4, 2) := by decide +kernel
theorem dX9_number_35 : decode cX9_number 35 = .ok (.aload_n 0, 1) := by decide +kernel
theorem dX9_number_36 : decode cX9_number 36 = .ok (.getfield 141, 3) := by decide +kernel
theorem dX9_number_39 : decode cX9_number 39 = .ok (.aload_n 0, 1) := by decide +kernel
theorem dX9_number_4 : decode cX9_number 4 = .ok (.invokestatic 158, 3) := by decide +kernel
theorem dX9_number_40 : decode cX9_number 40 = .ok (.getfield 144, 3) := by decide +kernel
theorem dX9_number_43 : decode cX9_number 43 = .ok (.if_icmp .ge 75, 3) := by decide +kernel
theorem dX9_number_46 : decode cX9_number 46 = .ok (.aload_n 0, 1) := by decide +kernel
theorem dX9_number_47 : decode cX9_number 47 = .ok (.getfield 39, 3) := by decide +kernel
theorem dX9_number_50 : decode cX9_number 50 = .ok (.aload_n 0, 1) := by decide +kernel
theorem dX9_number_51 : decode cX9_number 51 = .ok (.getfield 141, 3) := by decide +kernel
theorem dX9_number_54 : decode cX9_number 54 = .ok (.iaload, 1) := by decide +kernel
theorem dX9_number_55 : decode cX9_number 55 = .ok (.invokestatic 158, 3) := by decide +kernel
theorem dX9_number_58 : decode cX9_number 58 = .ok (.ifCond .eq 60, 3) := by decide +kernel
theorem dX9_number_61 : decode cX9_number 61 = .ok (.aload_n 0, 1) := by decide +kernel
theorem dX9_number_62 : decode cX9_number 62 = .ok (.getfield 141, 3) := by decide +kernel
theorem dX9_number_65 : decode cX9_number 65 = .ok (.aload_n 0, 1) := by decide +kernel
theorem dX9_number_66 : decode cX9_number 66 = .ok (.getfield 147, 3) := by decide +kernel
theorem dX9_number_69 : decode cX9_number 69 = .ok (.isub, 1) := by decide +kernel
theorem dX9_number_7 : decode cX9_number 7 = .ok (.ifCond .eq 14, 3) := by decide +kernel
theorem dX9_number_70 : decode cX9_number 70 = .ok (.iload_n 1, 1) := by decide +kernel
theorem dX9_number_71 : decode cX9_number 71 = .ok (.if_icmp .ne 14, 3) := by decide +kernel
theorem dX9_number_74 : decode cX9_number 74 = .ok (.aload_n 0, 1) := by decide +kernel
theorem dX9_number_75 : decode cX9_number 75 = .ok (.iconst 1, 1) := by decide +kernel
theorem dX9_number_76 : decode cX9_number 76 = .ok (.aload_n 0, 1) := by decide +kernel
theorem dX9_number_77 : decode cX9_number 77 = .ok (.getfield 141, 3) := by decide +kernel
theorem dX9_number_80 : decode cX9_number 80 = .ok (.invokevirtual 154, 3) := by decide +kernel
theorem dX9_number_83 : decode cX9_number 83 = .ok (.iconst 0, 1) := by decide +kernel
theorem dX9_number_84 : decode cX9_number 84 = .ok (.ireturn, 1) := by decide +kernel
theorem dX9_number_85 : decode cX9_number 85 = .ok (.bipush 10, 2) := by decide +kernel
theorem dX9_number_87 : decode cX9_number 87 = .ok (.iload 4, 2) := by decide +kernel
theorem dX9_number_89 : decode cX9_number 89 = .ok (.imul, 1) := by decide +kernel
theorem dX9_number_90 : decode cX9_number 90 = .ok (.aload_n 0, 1) := by decide +kernel
theorem dX9_number_91 : decode cX9_number 91 = .ok (.getfield 39, 3) := by decide +kernel
theorem dX9_number_94 : decode cX9_number 94 = .ok (.aload_n 0, 1) := by decide +kernel
theorem dX9_number_95 : decode cX9_number 95 = .ok (.getfield 141, 3) := by decide +kernel
theorem dX9_number_98 : decode cX9_number 98 = .ok (.iaload, 1) := by decide +kernel
theorem dX9_number_99 : decode cX9_number 99 = .ok (.iadd, 1) := by decide +kernel
theorem dX9_sign_0 : decode cX9_sign 0 = .ok (.aload_n 0, 1) := by decide +kernel
theorem dX9_sign_1 : decode cX9_sign 1 = .ok (.invokevirtual 150, 3) := by decide +kernel
theorem dX9_sign_10 : decode cX9_sign 10 = .ok (.getfield 141, 3) := by decide +kernel
theorem dX9_sign_13 : decode cX9_sign 13 = .ok (.iconst 1, 1) := by decide +kernel
theorem dX9_sign_14 : decode cX9_sign 14 = .ok (.iadd, 1) := by decide +kernel
theorem dX9_sign_15 : decode cX9_sign 15 = .ok (.putfield 141, 3) := by decide +kernel
theorem dX9_sign_18 : decode cX9_sign 18 = .ok (.goto 12, 3) := by decide +kernel
theorem dX9_sign_21 : decode cX9_sign 21 = .ok (.aload_n 0, 1) := by decide +kernel
theorem dX9_sign_22 : decode cX9_sign 22 = .ok (.iconst 1, 1) := by decide +kernel
theorem dX9_sign_23 : decode cX9_sign 23 = .ok (.aload_n 0, 1) := by decide +kernel
theorem dX9_sign_24 : decode cX9_sign 24 = .ok (.getfield 141, 3) := by decide +kernel
theorem dX9_sign_27 : decode cX9_sign 27 = .ok (.invokevirtual 154, 3) := by decide +kernel
theorem dX9_sign_30 : decode cX9_sign 30 = .ok (.return_, 1) := by decide +kernel
theorem dX9_sign_4 : decode cX9_sign 4 = .ok (.iload_n 1, 1) := by decide +kernel
theorem dX9_sign_5 : decode cX9_sign 5 = .ok (.if_icmp .ne 16, 3) := by decide +kernel
theorem dX9_sign_8 : decode cX9_sign 8 = .ok (.aload_n 0, 1) := by decide +kernel
theorem dX9_sign_9 : decode cX9_sign 9 = .ok (.dup, 1) := by decide +kernel
theorem dX9_takes_0 : decode cX9_takes 0 = .ok (.aload_n 0, 1) := by decide +kernel
theorem dX9_takes_1 : decode cX9_takes 1 = .ok (.getfield 141, 3) := by decide +kernel
theorem dX9_takes_11 : decode cX9_takes 11 = .ok (.aload_n 0, 1) := by decide +kernel
theorem dX9_takes_12 : decode cX9_takes 12 = .ok (.iconst 1, 1) := by decide +kernel
theorem dX9_takes_13 : decode cX9_takes 13 = .ok (.aload_n 0, 1) := by decide +kernel
theorem dX9_takes_14 : decode cX9_takes 14 = .ok (.getfield 141, 3) := by decide +kernel
theorem dX9_takes_17 : decode cX9_takes 17 = .ok (.invokevirtual 154, 3) := by decide +kernel
theorem dX9_takes_20 : decode cX9_takes 20 = .ok (.aload_n 0, 1) := by decide +kernel
theorem dX9_takes_21 : decode cX9_takes 21 = .ok (.aload_n 0, 1) := by decide +kernel
theorem dX9_takes_22 : decode cX9_takes 22 = .ok (.invokevirtual 172, 3) := by decide +kernel
theorem dX9_takes_25 : decode cX9_takes 25 = .ok (.putfield 141, 3) := by decide +kernel
theorem dX9_takes_28 : decode cX9_takes 28 = .ok (.aload_n 0, 1) := by decide +kernel
theorem dX9_takes_29 : decode cX9_takes 29 = .ok (.aload_n 0, 1) := by decide +kernel
theorem dX9_takes_30 : decode cX9_takes 30 = .ok (.getfield 141, 3) := by decide +kernel
theorem dX9_takes_33 : decode cX9_takes 33 = .ok (.putfield 162, 3) := by decide +kernel
theorem dX9_takes_36 : decode cX9_takes 36 = .ok (.return_, 1) := by decide +kernel
theorem dX9_takes_4 : decode cX9_takes 4 = .ok (.aload_n 0, 1) := by decide +kernel
theorem dX9_takes_5 : decode cX9_takes 5 = .ok (.getfield 162, 3) := by decide +kernel
theorem dX9_takes_8 : decode cX9_takes 8 = .ok (.if_icmp .ne 12, 3) := by decide +kernel
theorem dX9_wordEnd_0 : decode cX9_wordEnd 0 = .ok (.aload_n 0, 1) := by decide +kernel
theorem dX9_wordEnd_1 : decode cX9_wordEnd 1 = .ok (.getfield 141, 3) := by decide +kernel
theorem dX9_wordEnd_10 : decode cX9_wordEnd 10 = .ok (.if_icmp .ge 21, 3) := by decide +kernel
theorem dX9_wordEnd_13 : decode cX9_wordEnd 13 = .ok (.aload_n 0, 1) := by decide +kernel
theorem dX9_wordEnd_14 : decode cX9_wordEnd 14 = .ok (.getfield 39, 3) := by decide +kernel
theorem dX9_wordEnd_17 : decode cX9_wordEnd 17 = .ok (.iload_n 1, 1) := by decide +kernel
theorem dX9_wordEnd_18 : decode cX9_wordEnd 18 = .ok (.iaload, 1) := by decide +kernel
theorem dX9_wordEnd_19 : decode cX9_wordEnd 19 = .ok (.invokestatic 165, 3) := by decide +kernel
theorem dX9_wordEnd_22 : decode cX9_wordEnd 22 = .ok (.ifCond .eq 9, 3) := by decide +kernel
theorem dX9_wordEnd_25 : decode cX9_wordEnd 25 = .ok (.iinc 1 1, 3) := by decide +kernel
theorem dX9_wordEnd_28 : decode cX9_wordEnd 28 = .ok (.goto (-23), 3) := by decide +kernel
theorem dX9_wordEnd_31 : decode cX9_wordEnd 31 = .ok (.iload_n 1, 1) := by decide +kernel
theorem dX9_wordEnd_32 : decode cX9_wordEnd 32 = .ok (.ireturn, 1) := by decide +kernel
theorem dX9_wordEnd_4 : decode cX9_wordEnd 4 = .ok (.istore_n 1, 1) := by decide +kernel
theorem dX9_wordEnd_5 : decode cX9_wordEnd 5 = .ok (.iload_n 1, 1) := by decide +kernel
theorem dX9_wordEnd_6 : decode cX9_wordEnd 6 = .ok (.aload_n 0, 1) := by decide +kernel
theorem dX9_wordEnd_7 : decode cX9_wordEnd 7 = .ok (.getfield 144, 3) := by decide +kernel
theorem dX9_word_0 : decode cX9_word 0 = .ok (.aload_n 0, 1) := by decide +kernel
theorem dX9_word_1 : decode cX9_word 1 = .ok (.invokevirtual 150, 3) := by decide +kernel
theorem dX9_word_11 : decode cX9_word 11 = .ok (.istore_n 3, 1) := by decide +kernel
theorem dX9_word_12 : decode cX9_word 12 = .ok (.iload_n 3, 1) := by decide +kernel
theorem dX9_word_13 : decode cX9_word 13 = .ok (.aload_n 0, 1) := by decide +kernel
theorem dX9_word_14 : decode cX9_word 14 = .ok (.getfield 141, 3) := by decide +kernel
theorem dX9_word_17 : decode cX9_word 17 = .ok (.isub, 1) := by decide +kernel
theorem dX9_word_18 : decode cX9_word 18 = .ok (.bipush 8, 2) := by decide +kernel
theorem dX9_word_20 : decode cX9_word 20 = .ok (.if_icmp .le 7, 3) := by decide +kernel
theorem dX9_word_23 : decode cX9_word 23 = .ok (.ldc2_w 175, 3) := by decide +kernel
theorem dX9_word_26 : decode cX9_word 26 = .ok (.lreturn, 1) := by decide +kernel
theorem dX9_word_27 : decode cX9_word 27 = .ok (.aload_n 0, 1) := by decide +kernel
theorem dX9_word_28 : decode cX9_word 28 = .ok (.getfield 141, 3) := by decide +kernel
theorem dX9_word_31 : decode cX9_word 31 = .ok (.istore 4, 2) := by decide +kernel
theorem dX9_word_33 : decode cX9_word 33 = .ok (.iload 4, 2) := by decide +kernel
theorem dX9_word_35 : decode cX9_word 35 = .ok (.iload_n 3, 1) := by decide +kernel
theorem dX9_word_36 : decode cX9_word 36 = .ok (.if_icmp .ge 30, 3) := by decide +kernel
theorem dX9_word_39 : decode cX9_word 39 = .ok (.ldc2_w 168, 3) := by decide +kernel
theorem dX9_word_4 : decode cX9_word 4 = .ok (.pop, 1) := by decide +kernel
theorem dX9_word_42 : decode cX9_word 42 = .ok (.lload_n 1, 1) := by decide +kernel
theorem dX9_word_43 : decode cX9_word 43 = .ok (.lmul, 1) := by decide +kernel
theorem dX9_word_44 : decode cX9_word 44 = .ok (.aload_n 0, 1) := by decide +kernel
theorem dX9_word_45 : decode cX9_word 45 = .ok (.getfield 39, 3) := by decide +kernel
theorem dX9_word_48 : decode cX9_word 48 = .ok (.iload 4, 2) := by decide +kernel
theorem dX9_word_5 : decode cX9_word 5 = .ok (.lconst 0, 1) := by decide +kernel
theorem dX9_word_50 : decode cX9_word 50 = .ok (.iaload, 1) := by decide +kernel
theorem dX9_word_51 : decode cX9_word 51 = .ok (.i2l, 1) := by decide +kernel
theorem dX9_word_52 : decode cX9_word 52 = .ok (.ladd, 1) := by decide +kernel
theorem dX9_word_53 : decode cX9_word 53 = .ok (.ldc2_w 170, 3) := by decide +kernel
theorem dX9_word_56 : decode cX9_word 56 = .ok (.lsub, 1) := by decide +kernel
theorem dX9_word_57 : decode cX9_word 57 = .ok (.lconst 1, 1) := by decide +kernel
theorem dX9_word_58 : decode cX9_word 58 = .ok (.ladd, 1) := by decide +kernel
theorem dX9_word_59 : decode cX9_word 59 = .ok (.lstore_n 1, 1) := by decide +kernel
theorem dX9_word_6 : decode cX9_word 6 = .ok (.lstore_n 1, 1) := by decide +kernel
theorem dX9_word_60 : decode cX9_word 60 = .ok (.iinc 4 1, 3) := by decide +kernel
theorem dX9_word_63 : decode cX9_word 63 = .ok (.goto (-30), 3) := by decide +kernel
theorem dX9_word_66 : decode cX9_word 66 = .ok (.lload_n 1, 1) := by decide +kernel
theorem dX9_word_67 : decode cX9_word 67 = .ok (.lreturn, 1) := by decide +kernel
theorem dX9_word_7 : decode cX9_word 7 = .ok (.aload_n 0, 1) := by decide +kernel
theorem dX9_word_8 : decode cX9_word 8 = .ok (.invokevirtual 172, 3) := by decide +kernel
noncomputable def x9_isLetter (p0 : Int32) (st : RS) : Option (Int32 × RS) := pif (p0 < 97) (some ((0 : Int32), st)) (pif (122 < p0) (some ((0 : Int32), st)) (some ((1 : Int32), st)))
def wq_X9_isLetter : List Cond := .code yX9_isLetter cX9_isLetter 1 (some .boolean) :: ([])
set_option maxHeartbeats 4000000 in
set_option maxRecDepth 100000 in
theorem c_X9_isLetter (l : Launch) (dC : Nat → ClassId) (dI : Nat → Nat → Nat) (h0 : Nat) (ar : Nat → Nat) (ca : Nat → ClassId) (p0 : Int32) (st st' : RS) (r : Int32) (hf : x9_isLetter p0 st = some (r, st')) (sz : Nat) : Met l yX9_isLetter wq_X9_isLetter ({ frames := 0, cells := 0, slots := 0, locals := 0 }) (va_Pc [.int p0] (Pr (dC, dI) (rT ca) [] (RW h0 ar ca st) sz)) (va_Qi (fun r' (_ : Unit) => r' = r) (Bq (dC, dI) (fun _ => RW h0 ar ca st') (fun _ => []) (va_A (RW h0 ar ca st) sz)) (va_A (RW h0 ar ca st) sz)) 0 0 (va_A (RW h0 ar ca st) sz) := by
  refine Met.ofW (cc := cX9_isLetter) (maxL := 1) (ret := (some .boolean)) (by decide) rfl ?_
  intro p e s m args below meth c s₁ B hml hv
  obtain ⟨rfl, hsz, hP, hK, hD0, hN, hZ, hR⟩ := hv
  have hx := B.exec
  have hb := B.bytes
  have hr := B.returns
  have hts := atoms_spec (ws := wq_X9_isLetter) B.pre
  have hown : s.vm.findClass RX9 = some m.cls := findClass_of_methodNamed B.named
  subst hsz
  have hp : Rp (dC, dI) h0 ar ca (va_A (RW h0 ar ca st) s.heap.size) s.heap st s.heap [] := ⟨hP, hD0.self, va_S.rf⟩
  generalize hAe : va_A (RW h0 ar ca st) s.heap.size = A at hp hZ ⊢
  have hA : ∀ q : Nat, s.heap.size ≤ q → A q := fun q h => by rw [← hAe]; exact Or.inr h
  have hl := lv_entry ([.int p0]) (n := 1) (Nat.le_of_ble_eq_true rfl)
  rw [lg_entry_eq]
  generalize (lg_sl ([.int p0]) ++ List.replicate (1 - (lg_sl ([.int p0])).length) Slot.unset).toArray = ls at hl ⊢
  have hl : lv_has ls 1 [(0, .int p0)] := hl
  unfold x9_isLetter at hf
  refine lv_iload_n hx hb dX9_isLetter_0 rfl (lv_at hl 0 rfl) ?_
  refine lv_bipush (v := 97) hx hb dX9_isLetter_1 (by decide) ?_
  refine lv_icmp_lt (tgt := 16) hx hb dX9_isLetter_3 (by decide) (fun c_1 => ?_) (fun c_1 => ?_)
  · have hf := pif_t c_1 hf
    refine lv_iconst (v := 0) hx hb dX9_isLetter_16 (by decide) ?_
    obtain ⟨e1, e2⟩ := pr_some hf
    exact W.zret (v := 0) hx hb hr rfl (fun t ht hW => ⟨⟨0, (), rfl, e1, Rp.end e2 hp hK ht hW⟩, hp.2.2.F ht⟩) hp.2.2.2.2 dX9_isLetter_17
  · have hf := pif_f c_1 hf
    refine lv_iload_n hx hb dX9_isLetter_6 rfl (lv_at hl 0 rfl) ?_
    refine lv_bipush (v := 122) hx hb dX9_isLetter_7 (by decide) ?_
    refine lv_icmp_gt (tgt := 16) hx hb dX9_isLetter_9 (by decide) (fun c_2 => ?_) (fun c_2 => ?_)
    · have hf := pif_t c_2 hf
      refine lv_iconst (v := 0) hx hb dX9_isLetter_16 (by decide) ?_
      obtain ⟨e1, e2⟩ := pr_some hf
      exact W.zret (v := 0) hx hb hr rfl (fun t ht hW => ⟨⟨0, (), rfl, e1, Rp.end e2 hp hK ht hW⟩, hp.2.2.F ht⟩) hp.2.2.2.2 dX9_isLetter_17
    · have hf := pif_f c_2 hf
      refine lv_iconst (v := 1) hx hb dX9_isLetter_12 (by decide) ?_
      refine lv_goto (tgt := 17) hx hb dX9_isLetter_13 (by decide) ?_
      obtain ⟨e1, e2⟩ := pr_some hf
      exact W.zret (v := 1) hx hb hr rfl (fun t ht hW => ⟨⟨1, (), rfl, e1, Rp.end e2 hp hK ht hW⟩, hp.2.2.F ht⟩) hp.2.2.2.2 dX9_isLetter_17
noncomputable def x9_isDigit (p0 : Int32) (st : RS) : Option (Int32 × RS) := pif (p0 < 48) (some ((0 : Int32), st)) (pif (57 < p0) (some ((0 : Int32), st)) (some ((1 : Int32), st)))
def wq_X9_isDigit : List Cond := .code yX9_isDigit cX9_isDigit 1 (some .boolean) :: ([])
set_option maxHeartbeats 4000000 in
set_option maxRecDepth 100000 in
theorem c_X9_isDigit (l : Launch) (dC : Nat → ClassId) (dI : Nat → Nat → Nat) (h0 : Nat) (ar : Nat → Nat) (ca : Nat → ClassId) (p0 : Int32) (st st' : RS) (r : Int32) (hf : x9_isDigit p0 st = some (r, st')) (sz : Nat) : Met l yX9_isDigit wq_X9_isDigit ({ frames := 0, cells := 0, slots := 0, locals := 0 }) (va_Pc [.int p0] (Pr (dC, dI) (rT ca) [] (RW h0 ar ca st) sz)) (va_Qi (fun r' (_ : Unit) => r' = r) (Bq (dC, dI) (fun _ => RW h0 ar ca st') (fun _ => []) (va_A (RW h0 ar ca st) sz)) (va_A (RW h0 ar ca st) sz)) 0 0 (va_A (RW h0 ar ca st) sz) := by
  refine Met.ofW (cc := cX9_isDigit) (maxL := 1) (ret := (some .boolean)) (by decide) rfl ?_
  intro p e s m args below meth c s₁ B hml hv
  obtain ⟨rfl, hsz, hP, hK, hD0, hN, hZ, hR⟩ := hv
  have hx := B.exec
  have hb := B.bytes
  have hr := B.returns
  have hts := atoms_spec (ws := wq_X9_isDigit) B.pre
  have hown : s.vm.findClass RX9 = some m.cls := findClass_of_methodNamed B.named
  subst hsz
  have hp : Rp (dC, dI) h0 ar ca (va_A (RW h0 ar ca st) s.heap.size) s.heap st s.heap [] := ⟨hP, hD0.self, va_S.rf⟩
  generalize hAe : va_A (RW h0 ar ca st) s.heap.size = A at hp hZ ⊢
  have hA : ∀ q : Nat, s.heap.size ≤ q → A q := fun q h => by rw [← hAe]; exact Or.inr h
  have hl := lv_entry ([.int p0]) (n := 1) (Nat.le_of_ble_eq_true rfl)
  rw [lg_entry_eq]
  generalize (lg_sl ([.int p0]) ++ List.replicate (1 - (lg_sl ([.int p0])).length) Slot.unset).toArray = ls at hl ⊢
  have hl : lv_has ls 1 [(0, .int p0)] := hl
  unfold x9_isDigit at hf
  refine lv_iload_n hx hb dX9_isDigit_0 rfl (lv_at hl 0 rfl) ?_
  refine lv_bipush (v := 48) hx hb dX9_isDigit_1 (by decide) ?_
  refine lv_icmp_lt (tgt := 16) hx hb dX9_isDigit_3 (by decide) (fun c_1 => ?_) (fun c_1 => ?_)
  · have hf := pif_t c_1 hf
    refine lv_iconst (v := 0) hx hb dX9_isDigit_16 (by decide) ?_
    obtain ⟨e1, e2⟩ := pr_some hf
    exact W.zret (v := 0) hx hb hr rfl (fun t ht hW => ⟨⟨0, (), rfl, e1, Rp.end e2 hp hK ht hW⟩, hp.2.2.F ht⟩) hp.2.2.2.2 dX9_isDigit_17
  · have hf := pif_f c_1 hf
    refine lv_iload_n hx hb dX9_isDigit_6 rfl (lv_at hl 0 rfl) ?_
    refine lv_bipush (v := 57) hx hb dX9_isDigit_7 (by decide) ?_
    refine lv_icmp_gt (tgt := 16) hx hb dX9_isDigit_9 (by decide) (fun c_2 => ?_) (fun c_2 => ?_)
    · have hf := pif_t c_2 hf
      refine lv_iconst (v := 0) hx hb dX9_isDigit_16 (by decide) ?_
      obtain ⟨e1, e2⟩ := pr_some hf
      exact W.zret (v := 0) hx hb hr rfl (fun t ht hW => ⟨⟨0, (), rfl, e1, Rp.end e2 hp hK ht hW⟩, hp.2.2.F ht⟩) hp.2.2.2.2 dX9_isDigit_17
    · have hf := pif_f c_2 hf
      refine lv_iconst (v := 1) hx hb dX9_isDigit_12 (by decide) ?_
      refine lv_goto (tgt := 17) hx hb dX9_isDigit_13 (by decide) ?_
      obtain ⟨e1, e2⟩ := pr_some hf
      exact W.zret (v := 1) hx hb hr rfl (fun t ht hW => ⟨⟨1, (), rfl, e1, Rp.end e2 hp hK ht hW⟩, hp.2.2.F ht⟩) hp.2.2.2.2 dX9_isDigit_17
noncomputable def x9_fail (p0 : Int32) (p1 : Int32) (st : RS) : Option (RS) := pif ((gI st 13) = 0) (nam (sI st 13 p0) (fun st_2 => nam (sI st_2 14 p1) (fun st_3 => some st_3))) (some st)
def wq_X9_fail : List Cond := .code yX9_fail cX9_fail 3 none :: (([.fieldLink RX9 135 "RecordBenchModel" "bad" "I", .fieldLink RX9 138 "RecordBenchModel" "badPlace" "I"] : List Cond) ++ wsX90)
set_option maxHeartbeats 4000000 in
set_option maxRecDepth 100000 in
theorem c_X9_fail (l : Launch) (dC : Nat → ClassId) (dI : Nat → Nat → Nat) (h0 : Nat) (ar : Nat → Nat) (ca : Nat → ClassId) (p0 : Int32) (p1 : Int32) (st st' : RS) (hf : x9_fail p0 p1 st = some st') (sz : Nat) : Met l yX9_fail wq_X9_fail ({ frames := 0, cells := 0, slots := 0, locals := 0 }) (va_Pc [.ref h0, .int p0, .int p1] (Pr (dC, dI) (rT ca) [] (RW h0 ar ca st) sz)) (va_Qv (fun (_ : Unit) => True) (Bq (dC, dI) (fun _ => RW h0 ar ca st') (fun _ => []) (va_A (RW h0 ar ca st) sz)) (va_A (RW h0 ar ca st) sz)) 0 0 (va_A (RW h0 ar ca st) sz) := by
  refine Met.ofW (cc := cX9_fail) (maxL := 3) (ret := none) (by decide) rfl ?_
  intro p e s m args below meth c s₁ B hml hv
  obtain ⟨rfl, hsz, hP, hK, hD0, hN, hZ, hR⟩ := hv
  have hx := B.exec
  have hb := B.bytes
  have hr := B.returns
  have hts := atoms_spec (ws := wq_X9_fail) B.pre
  have hown : s.vm.findClass RX9 = some m.cls := findClass_of_methodNamed B.named
  have iRX9 : ∀ w ∈ u_ws RX9 TX9 60, w ∈ wq_X9_fail := fun w h => List.mem_cons_of_mem _ (List.mem_append_right _ h)
  subst hsz
  have hp : Rp (dC, dI) h0 ar ca (va_A (RW h0 ar ca st) s.heap.size) s.heap st s.heap [] := ⟨hP, hD0.self, va_S.rf⟩
  generalize hAe : va_A (RW h0 ar ca st) s.heap.size = A at hp hZ ⊢
  have hA : ∀ q : Nat, s.heap.size ≤ q → A q := fun q h => by rw [← hAe]; exact Or.inr h
  have hl := lv_entry ([.ref h0, .int p0, .int p1]) (n := 3) (Nat.le_of_ble_eq_true rfl)
  rw [lg_entry_eq]
  generalize (lg_sl ([.ref h0, .int p0, .int p1]) ++ List.replicate (3 - (lg_sl ([.ref h0, .int p0, .int p1])).length) Slot.unset).toArray = ls at hl ⊢
  have hl : lv_has ls 3 [(0, .ref h0), (1, .int p0), (2, .int p1)] := hl
  unfold x9_fail at hf
  refine lv_aload_n hx hb dX9_fail_0 rfl (lv_at hl 0 rfl) ?_
  refine r_gi hx hb hts iRX9 hown hK hp 13 (by decide) rfl (hts (.fieldLink RX9 135 "RecordBenchModel" "bad" "I") (by decide +kernel)) dX9_fail_1 ?_
  refine lv_if_eq (tgt := 8) hx hb dX9_fail_4 (by decide) (fun c_1 => ?_) (fun c_1 => ?_)
  · have hf := pif_t c_1 hf
    refine lv_aload_n hx hb dX9_fail_8 rfl (lv_at hl 0 rfl) ?_
    refine lv_iload_n hx hb dX9_fail_9 rfl (lv_at hl 1 rfl) ?_
    refine r_pi (v := p0) (ty := .int) hx hb hts iRX9 hown hK hp 13 (by decide) rfl (hts (.fieldLink RX9 135 "RecordBenchModel" "bad" "I") (by decide +kernel)) rfl (by decide +kernel) rfl rfl dX9_fail_10 (fun H locs hp => ?_)
    obtain ⟨st_2, est_2, hf⟩ := nam_some hf
    rw [← est_2] at hp
    refine lv_aload_n hx hb dX9_fail_13 rfl (lv_at hl 0 rfl) ?_
    refine lv_iload_n hx hb dX9_fail_14 rfl (lv_at hl 2 rfl) ?_
    refine r_pi (v := p1) (ty := .int) hx hb hts iRX9 hown hK hp 14 (by decide) rfl (hts (.fieldLink RX9 138 "RecordBenchModel" "badPlace" "I") (by decide +kernel)) rfl (by decide +kernel) rfl rfl dX9_fail_15 (fun H locs hp => ?_)
    obtain ⟨st_3, est_3, hf⟩ := nam_some hf
    rw [← est_3] at hp
    have e2 := Option.some.inj hf
    exact W.vret hx hb hr (fun t ht hW => ⟨⟨(), rfl, trivial, Rp.end e2 hp hK ht hW⟩, hp.2.2.F ht⟩) hp.2.2.2.2 dX9_fail_18
  · have hf := pif_f c_1 hf
    have e2 := Option.some.inj hf
    exact W.vret hx hb hr (fun t ht hW => ⟨⟨(), rfl, trivial, Rp.end e2 hp hK ht hW⟩, hp.2.2.F ht⟩) hp.2.2.2.2 dX9_fail_7
noncomputable def x9_next_52  (st : RS) : Option (Int32 × RS) := nam (sI st 17 (gI st 11)) (fun st_1 => pif ((gI st_1 12) ≤ (gI st_1 11)) (some (((-1) : Int32), st_1)) (gd (vp_in (gI st_1 11) 400) (some (gF st_1 9 (gI st_1 11).toNatClampNeg, st_1))))
noncomputable def x9_next_39 (k0 : RS → Option (Int32 × RS)) (st : RS) : Option (Int32 × RS) := nam (sI st 11 ((gI st 11) + 1)) (fun st_4 => k0 st_4)
noncomputable def x9_next_0  : Nat → RS → Option (Int32 × RS)
  | 0 => fun _ => none
  | n + 1 => fun st => pif ((gI st 12) ≤ (gI st 11)) (x9_next_52  st) (gd (vp_in (gI st 11) 400) (pif ((gF st 9 (gI st 11).toNatClampNeg) = 10) (x9_next_39 (x9_next_0 n) st) (gd (vp_in (gI st 11) 400) (pif ((gF st 9 (gI st 11).toNatClampNeg) = 32) (x9_next_39 (x9_next_0 n) st) (x9_next_52  st)))))
theorem x9_next_0_z  (st : RS) : x9_next_0  0 st = none := rfl
theorem x9_next_0_s  (n : Nat) (st : RS) : x9_next_0  (n + 1) st = pif ((gI st 12) ≤ (gI st 11)) (x9_next_52  st) (gd (vp_in (gI st 11) 400) (pif ((gF st 9 (gI st 11).toNatClampNeg) = 10) (x9_next_39 (x9_next_0 n) st) (gd (vp_in (gI st 11) 400) (pif ((gF st 9 (gI st 11).toNatClampNeg) = 32) (x9_next_39 (x9_next_0 n) st) (x9_next_52  st))))) := rfl
noncomputable def x9_next  (st : RS) : Option (Int32 × RS) := x9_next_0  fuel st
def wq_X9_next : List Cond := .code yX9_next cX9_next 1 (some .int) :: (([.fieldLink RX9 141 "RecordBenchModel" "at" "I", .fieldLink RX9 144 "RecordBenchModel" "size" "I", .fieldLink RX9 39 "RecordBenchModel" "tape" "[I", .fieldLink RX9 147 "RecordBenchModel" "begun" "I"] : List Cond) ++ wsX90)
set_option maxHeartbeats 4000000 in
set_option maxRecDepth 100000 in
theorem c_X9_next (l : Launch) (dC : Nat → ClassId) (dI : Nat → Nat → Nat) (h0 : Nat) (ar : Nat → Nat) (ca : Nat → ClassId)  (st st' : RS) (r : Int32) (hf : x9_next  st = some (r, st')) (sz : Nat) : Met l yX9_next wq_X9_next ({ frames := 0, cells := 0, slots := 0, locals := 0 }) (va_Pc [.ref h0] (Pr (dC, dI) (rT ca) [] (RW h0 ar ca st) sz)) (va_Qi (fun r' (_ : Unit) => r' = r) (Bq (dC, dI) (fun _ => RW h0 ar ca st') (fun _ => []) (va_A (RW h0 ar ca st) sz)) (va_A (RW h0 ar ca st) sz)) 0 0 (va_A (RW h0 ar ca st) sz) := by
  refine Met.ofW (cc := cX9_next) (maxL := 1) (ret := (some .int)) (by decide) rfl ?_
  intro p e s m args below meth c s₁ B hml hv
  obtain ⟨rfl, hsz, hP, hK, hD0, hN, hZ, hR⟩ := hv
  have hx := B.exec
  have hb := B.bytes
  have hr := B.returns
  have hts := atoms_spec (ws := wq_X9_next) B.pre
  have hown : s.vm.findClass RX9 = some m.cls := findClass_of_methodNamed B.named
  have iRX9 : ∀ w ∈ u_ws RX9 TX9 60, w ∈ wq_X9_next := fun w h => List.mem_cons_of_mem _ (List.mem_append_right _ h)
  subst hsz
  have hp : Rp (dC, dI) h0 ar ca (va_A (RW h0 ar ca st) s.heap.size) s.heap st s.heap [] := ⟨hP, hD0.self, va_S.rf⟩
  generalize hAe : va_A (RW h0 ar ca st) s.heap.size = A at hp hZ ⊢
  have hA : ∀ q : Nat, s.heap.size ≤ q → A q := fun q h => by rw [← hAe]; exact Or.inr h
  have hl := lv_entry ([.ref h0]) (n := 1) (Nat.le_of_ble_eq_true rfl)
  rw [lg_entry_eq]
  generalize (lg_sl ([.ref h0]) ++ List.replicate (1 - (lg_sl ([.ref h0])).length) Slot.unset).toArray = ls at hl ⊢
  have hl : lv_has ls 1 [(0, .ref h0)] := hl
  refine W_blk (fun (st : RS) H locs ls => x9_next_52 st = some (r, st') ∧ Rp (dC, dI) h0 ar ca A s.heap st H locs ∧ lv_has ls 1 [(0, .ref h0)]) (fun (st : RS) ls => F0 m 52 ls []) ?_ (fun J52 => ?_)
  · intro u H locs ls hu
    obtain ⟨st, rfl⟩ : ∃ z, z = u := ⟨_, rfl⟩
    obtain ⟨hf, hp, hl⟩ := hu
    show W p l e _ s m _ below meth c _ _ _ _ _ (F0 m 52 ls [])
    unfold x9_next_52 at hf
    refine lv_aload_n hx hb dX9_next_52 rfl (lv_at hl 0 rfl) ?_
    refine lv_aload_n hx hb dX9_next_53 rfl (lv_at hl 0 rfl) ?_
    refine r_gi hx hb hts iRX9 hown hK hp 11 (by decide) rfl (hts (.fieldLink RX9 141 "RecordBenchModel" "at" "I") (by decide +kernel)) dX9_next_54 ?_
    refine r_pi (v := gI st 11) (ty := .int) hx hb hts iRX9 hown hK hp 17 (by decide) rfl (hts (.fieldLink RX9 147 "RecordBenchModel" "begun" "I") (by decide +kernel)) rfl (by decide +kernel) rfl rfl dX9_next_57 (fun H locs hp => ?_)
    obtain ⟨st_1, est_1, hf⟩ := nam_some hf
    rw [← est_1] at hp
    refine lv_aload_n hx hb dX9_next_60 rfl (lv_at hl 0 rfl) ?_
    refine r_gi hx hb hts iRX9 hown hK hp 11 (by decide) rfl (hts (.fieldLink RX9 141 "RecordBenchModel" "at" "I") (by decide +kernel)) dX9_next_61 ?_
    refine lv_aload_n hx hb dX9_next_64 rfl (lv_at hl 0 rfl) ?_
    refine r_gi hx hb hts iRX9 hown hK hp 12 (by decide) rfl (hts (.fieldLink RX9 144 "RecordBenchModel" "size" "I") (by decide +kernel)) dX9_next_65 ?_
    refine lv_icmp_ge (tgt := 83) hx hb dX9_next_68 (by decide) (fun c_2 => ?_) (fun c_2 => ?_)
    · have hf := pif_t c_2 hf
      refine lv_iconst (v := (-1)) hx hb dX9_next_83 (by decide) ?_
      obtain ⟨e1, e2⟩ := pr_some hf
      exact W.iret (v := (-1)) hx hb hr (fun t ht hW => ⟨⟨(-1), (), rfl, e1, Rp.end e2 hp hK ht hW⟩, hp.2.2.F ht⟩) hp.2.2.2.2 dX9_next_84
    · have hf := pif_f c_2 hf
      refine lv_aload_n hx hb dX9_next_71 rfl (lv_at hl 0 rfl) ?_
      refine r_ga hx hb hts iRX9 hown hK hp 9 (by decide) (by decide) (hts (.fieldLink RX9 39 "RecordBenchModel" "tape" "[I") (by decide +kernel)) dX9_next_72 ?_
      refine lv_aload_n hx hb dX9_next_75 rfl (lv_at hl 0 rfl) ?_
      refine r_gi hx hb hts iRX9 hown hK hp 11 (by decide) rfl (hts (.fieldLink RX9 141 "RecordBenchModel" "at" "I") (by decide +kernel)) dX9_next_76 ?_
      obtain ⟨g_3, hf⟩ := gd_some hf
      refine r_ai (n := 400) hx hb hK hp 9 9 rfl rfl rfl g_3 dX9_next_79 ?_
      refine lv_goto (tgt := 84) hx hb dX9_next_80 (by decide) ?_
      obtain ⟨e1, e2⟩ := pr_some hf
      exact W.iret (v := gF st_1 9 (gI st_1 11).toNatClampNeg) hx hb hr (fun t ht hW => ⟨⟨gF st_1 9 (gI st_1 11).toNatClampNeg, (), rfl, e1, Rp.end e2 hp hK ht hW⟩, hp.2.2.F ht⟩) hp.2.2.2.2 dX9_next_84
  refine W_lp (fun n0 (st : RS) H locs ls => x9_next_0 n0 st = some (r, st') ∧ Rp (dC, dI) h0 ar ca A s.heap st H locs ∧ lv_has ls 1 [(0, .ref h0)]) (fun (st : RS) ls => F0 m 0 ls []) ?_ ?_ (fun J0 => ?_)
  · intro u H locs ls hu
    obtain ⟨st, rfl⟩ : ∃ z, z = u := ⟨_, rfl⟩
    obtain ⟨hf, hp, hl⟩ := hu
    rw [x9_next_0_z] at hf
    cases hf
  · intro n0 ih0 u H locs ls hu
    obtain ⟨st, rfl⟩ : ∃ z, z = u := ⟨_, rfl⟩
    obtain ⟨hf, hp, hl⟩ := hu
    show W p l e _ s m _ below meth c _ _ _ _ _ (F0 m 0 ls [])
    refine W_blk (fun (st : RS) H locs ls => x9_next_39 (x9_next_0 n0) st = some (r, st') ∧ Rp (dC, dI) h0 ar ca A s.heap st H locs ∧ lv_has ls 1 [(0, .ref h0)]) (fun (st : RS) ls => F0 m 39 ls []) ?_ (fun J39 => ?_)
    · intro u H locs ls hu
      obtain ⟨st, rfl⟩ : ∃ z, z = u := ⟨_, rfl⟩
      obtain ⟨hf, hp, hl⟩ := hu
      show W p l e _ s m _ below meth c _ _ _ _ _ (F0 m 39 ls [])
      unfold x9_next_39 at hf
      refine lv_aload_n hx hb dX9_next_39 rfl (lv_at hl 0 rfl) ?_
      refine lv_dup hx hb dX9_next_40 rfl ?_
      refine r_gi hx hb hts iRX9 hown hK hp 11 (by decide) rfl (hts (.fieldLink RX9 141 "RecordBenchModel" "at" "I") (by decide +kernel)) dX9_next_41 ?_
      refine lv_iconst (v := 1) hx hb dX9_next_44 (by decide) ?_
      refine lv_iadd hx hb dX9_next_45 ?_
      refine r_pi (v := (gI st 11) + 1) (ty := .int) hx hb hts iRX9 hown hK hp 11 (by decide) rfl (hts (.fieldLink RX9 141 "RecordBenchModel" "at" "I") (by decide +kernel)) rfl (by decide +kernel) rfl rfl dX9_next_46 (fun H locs hp => ?_)
      obtain ⟨st_4, est_4, hf⟩ := nam_some hf
      rw [← est_4] at hp
      refine lv_goto (tgt := 0) hx hb dX9_next_49 (by decide) ?_
      exact ih0 st_4 _ _ _ ⟨hf, hp, (lv_sub hl [0] rfl)⟩
    rw [x9_next_0_s] at hf
    refine lv_aload_n hx hb dX9_next_0 rfl (lv_at hl 0 rfl) ?_
    refine r_gi hx hb hts iRX9 hown hK hp 11 (by decide) rfl (hts (.fieldLink RX9 141 "RecordBenchModel" "at" "I") (by decide +kernel)) dX9_next_1 ?_
    refine lv_aload_n hx hb dX9_next_4 rfl (lv_at hl 0 rfl) ?_
    refine r_gi hx hb hts iRX9 hown hK hp 12 (by decide) rfl (hts (.fieldLink RX9 144 "RecordBenchModel" "size" "I") (by decide +kernel)) dX9_next_5 ?_
    refine lv_icmp_ge (tgt := 52) hx hb dX9_next_8 (by decide) (fun c_5 => ?_) (fun c_5 => ?_)
    · have hf := pif_t c_5 hf
      exact J52 st _ _ _ ⟨hf, hp, (lv_sub hl [0] rfl)⟩
    · have hf := pif_f c_5 hf
      refine lv_aload_n hx hb dX9_next_11 rfl (lv_at hl 0 rfl) ?_
      refine r_ga hx hb hts iRX9 hown hK hp 9 (by decide) (by decide) (hts (.fieldLink RX9 39 "RecordBenchModel" "tape" "[I") (by decide +kernel)) dX9_next_12 ?_
      refine lv_aload_n hx hb dX9_next_15 rfl (lv_at hl 0 rfl) ?_
      refine r_gi hx hb hts iRX9 hown hK hp 11 (by decide) rfl (hts (.fieldLink RX9 141 "RecordBenchModel" "at" "I") (by decide +kernel)) dX9_next_16 ?_
      obtain ⟨g_6, hf⟩ := gd_some hf
      refine r_ai (n := 400) hx hb hK hp 9 9 rfl rfl rfl g_6 dX9_next_19 ?_
      refine lv_bipush (v := 10) hx hb dX9_next_20 (by decide) ?_
      refine lv_icmp_eq (tgt := 39) hx hb dX9_next_22 (by decide) (fun c_7 => ?_) (fun c_7 => ?_)
      · have hf := pif_t c_7 hf
        exact J39 st _ _ _ ⟨hf, hp, (lv_sub hl [0] rfl)⟩
      · have hf := pif_f c_7 hf
        refine lv_aload_n hx hb dX9_next_25 rfl (lv_at hl 0 rfl) ?_
        refine r_ga hx hb hts iRX9 hown hK hp 9 (by decide) (by decide) (hts (.fieldLink RX9 39 "RecordBenchModel" "tape" "[I") (by decide +kernel)) dX9_next_26 ?_
        refine lv_aload_n hx hb dX9_next_29 rfl (lv_at hl 0 rfl) ?_
        refine r_gi hx hb hts iRX9 hown hK hp 11 (by decide) rfl (hts (.fieldLink RX9 141 "RecordBenchModel" "at" "I") (by decide +kernel)) dX9_next_30 ?_
        obtain ⟨g_8, hf⟩ := gd_some hf
        refine r_ai (n := 400) hx hb hK hp 9 9 rfl rfl rfl g_8 dX9_next_33 ?_
        refine lv_bipush (v := 32) hx hb dX9_next_34 (by decide) ?_
        refine lv_icmp_ne (tgt := 52) hx hb dX9_next_36 (by decide) (fun c_9 => ?_) (fun c_9 => ?_)
        · have hf := pif_f c_9 hf
          exact J52 st _ _ _ ⟨hf, hp, (lv_sub hl [0] rfl)⟩
        · have hf := pif_t c_9 hf
          exact J39 st _ _ _ ⟨hf, hp, (lv_sub hl [0] rfl)⟩
  unfold x9_next at hf
  exact J0 fuel st _ _ _ ⟨hf, hp, (lv_sub hl [0] rfl)⟩
noncomputable def x9_sign (p0 : Int32) (st : RS) : Option (RS) := bnd (x9_next st) (fun r_3 st_1 => pif (r_3 = p0) (nam (sI st_1 11 ((gI st_1 11) + 1)) (fun st_8 => some st_8)) (bnv (x9_fail 1 (gI st_1 11) st_1) (fun st_5 => some st_5)))
def wq_X9_sign : List Cond := .code yX9_sign cX9_sign 2 none :: (([.fieldLink RX9 141 "RecordBenchModel" "at" "I", .methodLink RX9 150 yX9_next, .instanceMethod yX9_next, .selects RX9 yX9_next yX9_next, .initialized RX9, .methodLink RX9 154 yX9_fail, .instanceMethod yX9_fail, .selects RX9 yX9_fail yX9_fail, .code yX9_next cX9_next 1 (some .int), .fieldLink RX9 144 "RecordBenchModel" "size" "I", .fieldLink RX9 39 "RecordBenchModel" "tape" "[I", .fieldLink RX9 147 "RecordBenchModel" "begun" "I", .code yX9_fail cX9_fail 3 none, .fieldLink RX9 135 "RecordBenchModel" "bad" "I", .fieldLink RX9 138 "RecordBenchModel" "badPlace" "I"] : List Cond) ++ wsX90)
theorem gs_wq_X9_sign_wsX90 : GoodIn wq_X9_sign wsX90 := fun w h => ⟨List.mem_cons_of_mem _ (List.mem_append_right _ h), (gt_wsX90 w h).2⟩
set_option maxRecDepth 20000 in
theorem gq_X9_sign_X9_next_150 : GoodIn wq_X9_sign (wsV RX9 150 RX9 yX9_next wq_X9_next) := goodIn_app (goodIn_r _ [2, 3, 4, 5] rfl rfl) (goodIn_ca (goodIn_r _ [9, 1, 10, 11, 12] rfl rfl) gs_wq_X9_sign_wsX90)
set_option maxRecDepth 20000 in
theorem gq_X9_sign_X9_fail_154 : GoodIn wq_X9_sign (wsV RX9 154 RX9 yX9_fail wq_X9_fail) := goodIn_app (goodIn_r _ [6, 7, 8, 5] rfl rfl) (goodIn_ca (goodIn_r _ [13, 14, 15] rfl rfl) gs_wq_X9_sign_wsX90)
set_option maxHeartbeats 4000000 in
set_option maxRecDepth 100000 in
theorem c_X9_sign (l : Launch) (dC : Nat → ClassId) (dI : Nat → Nat → Nat) (h0 : Nat) (ar : Nat → Nat) (ca : Nat → ClassId) (p0 : Int32) (st st' : RS) (hf : x9_sign p0 st = some st') (sz : Nat) : Met l yX9_sign wq_X9_sign ({ frames := 1, cells := 0, slots := 0, locals := 26 }) (va_Pc [.ref h0, .int p0] (Pr (dC, dI) (rT ca) [] (RW h0 ar ca st) sz)) (va_Qv (fun (_ : Unit) => True) (Bq (dC, dI) (fun _ => RW h0 ar ca st') (fun _ => []) (va_A (RW h0 ar ca st) sz)) (va_A (RW h0 ar ca st) sz)) 0 0 (va_A (RW h0 ar ca st) sz) := by
  refine Met.ofW (cc := cX9_sign) (maxL := 2) (ret := none) (by decide) rfl ?_
  intro p e s m args below meth c s₁ B hml hv
  obtain ⟨rfl, hsz, hP, hK, hD0, hN, hZ, hR⟩ := hv
  have hx := B.exec
  have hb := B.bytes
  have hr := B.returns
  have hts := atoms_spec (ws := wq_X9_sign) B.pre
  have hown : s.vm.findClass RX9 = some m.cls := findClass_of_methodNamed B.named
  have iRX9 : ∀ w ∈ u_ws RX9 TX9 60, w ∈ wq_X9_sign := fun w h => List.mem_cons_of_mem _ (List.mem_append_right _ h)
  subst hsz
  have hp : Rp (dC, dI) h0 ar ca (va_A (RW h0 ar ca st) s.heap.size) s.heap st s.heap [] := ⟨hP, hD0.self, va_S.rf⟩
  generalize hAe : va_A (RW h0 ar ca st) s.heap.size = A at hp hZ ⊢
  have hA : ∀ q : Nat, s.heap.size ≤ q → A q := fun q h => by rw [← hAe]; exact Or.inr h
  have hl := lv_entry ([.ref h0, .int p0]) (n := 2) (Nat.le_of_ble_eq_true rfl)
  rw [lg_entry_eq]
  generalize (lg_sl ([.ref h0, .int p0]) ++ List.replicate (2 - (lg_sl ([.ref h0, .int p0])).length) Slot.unset).toArray = ls at hl ⊢
  have hl : lv_has ls 2 [(0, .ref h0), (1, .int p0)] := hl
  unfold x9_sign at hf
  refine lv_aload_n hx hb dX9_sign_0 rfl (lv_at hl 0 rfl) ?_
  obtain ⟨r_3, st_1, hc_2, hf⟩ := bnd_some hf
  refine r_ci hp hA (va_runV (As := []) (rest := []) ⟨hx, hb, hml, hown, hts⟩ (c_X9_next l dC dI h0 ar ca  _ _ _ hc_2 _) (cwV 0 hts gq_X9_sign_X9_next_150 rfl rfl rfl (by decide +kernel) ⟨Nat.le_of_ble_eq_true rfl, Nat.le_of_ble_eq_true rfl⟩) ⟨Pr.blind _, va_recv hK hp.1 (ci := 11) (q0 := 0) rfl rfl, r_pre hp hK hN hZ hA⟩ rfl rfl hl.1 rfl (lv_room (Nat.le_of_ble_eq_true rfl)) dX9_sign_1 ⟨Nat.le_of_ble_eq_true rfl, Nat.le_of_ble_eq_true rfl⟩) (fun H locs hp => ?_)
  refine lv_iload_n hx hb dX9_sign_4 rfl (lv_at hl 1 rfl) ?_
  refine lv_icmp_ne (tgt := 21) hx hb dX9_sign_5 (by decide) (fun c_4 => ?_) (fun c_4 => ?_)
  · have hf := pif_f c_4 hf
    refine lv_aload_n hx hb dX9_sign_21 rfl (lv_at hl 0 rfl) ?_
    refine lv_iconst (v := 1) hx hb dX9_sign_22 (by decide) ?_
    refine lv_aload_n hx hb dX9_sign_23 rfl (lv_at hl 0 rfl) ?_
    refine r_gi hx hb hts iRX9 hown hK hp 11 (by decide) rfl (hts (.fieldLink RX9 141 "RecordBenchModel" "at" "I") (by decide +kernel)) dX9_sign_24 ?_
    obtain ⟨st_5, hc_6, hf⟩ := bnv_some hf
    refine r_cv hp hA (va_runV (As := [.int 1, .int (gI st_1 11)]) (rest := []) ⟨hx, hb, hml, hown, hts⟩ (c_X9_fail l dC dI h0 ar ca 1 (gI st_1 11) _ _ hc_6 _) (cwV 2 hts gq_X9_sign_X9_fail_154 rfl rfl rfl (by decide +kernel) ⟨Nat.le_of_ble_eq_true rfl, Nat.le_of_ble_eq_true rfl⟩) ⟨Pr.blind _, va_recv hK hp.1 (ci := 11) (q0 := 0) rfl rfl, r_pre hp hK hN hZ hA⟩ rfl rfl hl.1 rfl (lv_room (Nat.le_of_ble_eq_true rfl)) dX9_sign_27 ⟨Nat.le_of_ble_eq_true rfl, Nat.le_of_ble_eq_true rfl⟩) (fun H locs hp => ?_)
    have e2 := Option.some.inj hf
    exact W.vret hx hb hr (fun t ht hW => ⟨⟨(), rfl, trivial, Rp.end e2 hp hK ht hW⟩, hp.2.2.F ht⟩) hp.2.2.2.2 dX9_sign_30
  · have hf := pif_t c_4 hf
    refine lv_aload_n hx hb dX9_sign_8 rfl (lv_at hl 0 rfl) ?_
    refine lv_dup hx hb dX9_sign_9 rfl ?_
    refine r_gi hx hb hts iRX9 hown hK hp 11 (by decide) rfl (hts (.fieldLink RX9 141 "RecordBenchModel" "at" "I") (by decide +kernel)) dX9_sign_10 ?_
    refine lv_iconst (v := 1) hx hb dX9_sign_13 (by decide) ?_
    refine lv_iadd hx hb dX9_sign_14 ?_
    refine r_pi (v := (gI st_1 11) + 1) (ty := .int) hx hb hts iRX9 hown hK hp 11 (by decide) rfl (hts (.fieldLink RX9 141 "RecordBenchModel" "at" "I") (by decide +kernel)) rfl (by decide +kernel) rfl rfl dX9_sign_15 (fun H locs hp => ?_)
    obtain ⟨st_8, est_8, hf⟩ := nam_some hf
    rw [← est_8] at hp
    refine lv_goto (tgt := 30) hx hb dX9_sign_18 (by decide) ?_
    have e2 := Option.some.inj hf
    exact W.vret hx hb hr (fun t ht hW => ⟨⟨(), rfl, trivial, Rp.end e2 hp hK ht hW⟩, hp.2.2.F ht⟩) hp.2.2.2.2 dX9_sign_30
noncomputable def x9_number_138  (l4 : Int32) (st : RS) : Option (Int32 × RS) := bnv (x9_fail 2 (gI st 17) st) (fun st_1 => some (l4, st_1))
noncomputable def x9_number_118  (l2 : Int32) (l3 : Int32) (l4 : Int32) (st : RS) : Option (Int32 × RS) := nam (sI st 18 (gI st 11)) (fun st_4 => pif (l4 < l2) (x9_number_138  l4 st_4) (pif (l4 ≤ l3) (some (l4, st_4)) (x9_number_138  l4 st_4)))
noncomputable def x9_number_35  : Nat → Int32 → Int32 → Int32 → Int32 → RS → Option (Int32 × RS)
  | 0 => fun _ _ _ _ _ => none
  | n + 1 => fun l1 l2 l3 l4 st => pif ((gI st 12) ≤ (gI st 11)) (x9_number_118  l2 l3 l4 st) (gd (vp_in (gI st 11) 400) (bnd (x9_isDigit (gF st 9 (gI st 11).toNatClampNeg) st) (fun r_11 st_9 => pif (r_11 = 0) (x9_number_118  l2 l3 l4 st_9) (pif (((gI st_9 11) - (gI st_9 17)) = l1) (bnv (x9_fail 1 (gI st_9 11) st_9) (fun st_17 => some ((0 : Int32), st_17))) (gd (vp_in (gI st_9 11) 400) (nam (((10 * l4) + (gF st_9 9 (gI st_9 11).toNatClampNeg)) - 48) (fun v_15 => nam (sI st_9 11 ((gI st_9 11) + 1)) (fun st_16 => (x9_number_35 n) l1 l2 l3 v_15 st_16))))))))
theorem x9_number_35_z  (l1 : Int32) (l2 : Int32) (l3 : Int32) (l4 : Int32) (st : RS) : x9_number_35  0 l1 l2 l3 l4 st = none := rfl
theorem x9_number_35_s  (n : Nat) (l1 : Int32) (l2 : Int32) (l3 : Int32) (l4 : Int32) (st : RS) : x9_number_35  (n + 1) l1 l2 l3 l4 st = pif ((gI st 12) ≤ (gI st 11)) (x9_number_118  l2 l3 l4 st) (gd (vp_in (gI st 11) 400) (bnd (x9_isDigit (gF st 9 (gI st 11).toNatClampNeg) st) (fun r_11 st_9 => pif (r_11 = 0) (x9_number_118  l2 l3 l4 st_9) (pif (((gI st_9 11) - (gI st_9 17)) = l1) (bnv (x9_fail 1 (gI st_9 11) st_9) (fun st_17 => some ((0 : Int32), st_17))) (gd (vp_in (gI st_9 11) 400) (nam (((10 * l4) + (gF st_9 9 (gI st_9 11).toNatClampNeg)) - 48) (fun v_15 => nam (sI st_9 11 ((gI st_9 11) + 1)) (fun st_16 => (x9_number_35 n) l1 l2 l3 v_15 st_16)))))))) := rfl
noncomputable def x9_number_21  (st : RS) : Option (Int32 × RS) := bnv (x9_fail 1 (gI st 11) st) (fun st_20 => some ((0 : Int32), st_20))
noncomputable def x9_number (p0 : Int32) (p1 : Int32) (p2 : Int32) (st : RS) : Option (Int32 × RS) := bnd (x9_next st) (fun r_25 st_23 => bnd (x9_isDigit r_25 st_23) (fun r_28 st_26 => pif (r_28 = 0) (x9_number_21  st_26) (pif ((gI st_26 11) = (gI st_26 18)) (x9_number_21  st_26) (x9_number_35  fuel p0 p1 p2 0 st_26))))
def wq_X9_number : List Cond := .code yX9_number cX9_number 5 (some .int) :: (([.fieldLink RX9 141 "RecordBenchModel" "at" "I", .fieldLink RX9 162 "RecordBenchModel" "ended" "I", .fieldLink RX9 144 "RecordBenchModel" "size" "I", .fieldLink RX9 39 "RecordBenchModel" "tape" "[I", .fieldLink RX9 147 "RecordBenchModel" "begun" "I", .methodLink RX9 154 yX9_fail, .instanceMethod yX9_fail, .selects RX9 yX9_fail yX9_fail, .initialized RX9, .methodLink RX9 158 yX9_isDigit, .static yX9_isDigit, .methodLink RX9 150 yX9_next, .instanceMethod yX9_next, .selects RX9 yX9_next yX9_next, .code yX9_fail cX9_fail 3 none, .fieldLink RX9 135 "RecordBenchModel" "bad" "I", .fieldLink RX9 138 "RecordBenchModel" "badPlace" "I", .code yX9_isDigit cX9_isDigit 1 (some .boolean), .code yX9_next cX9_next 1 (some .int)] : List Cond) ++ wsX90)
theorem gs_wq_X9_number_wsX90 : GoodIn wq_X9_number wsX90 := fun w h => ⟨List.mem_cons_of_mem _ (List.mem_append_right _ h), (gt_wsX90 w h).2⟩
set_option maxRecDepth 20000 in
theorem gq_X9_number_X9_fail_154 : GoodIn wq_X9_number (wsV RX9 154 RX9 yX9_fail wq_X9_fail) := goodIn_app (goodIn_r _ [6, 7, 8, 9] rfl rfl) (goodIn_ca (goodIn_r _ [15, 16, 17] rfl rfl) gs_wq_X9_number_wsX90)
set_option maxRecDepth 20000 in
theorem gq_X9_number_X9_isDigit_158 : GoodIn wq_X9_number (wsS RX9 158 yX9_isDigit wq_X9_isDigit) := goodIn_app (goodIn_r _ [10, 11, 9] rfl rfl) (goodIn_r _ [18] rfl rfl)
set_option maxRecDepth 20000 in
theorem gq_X9_number_X9_next_150 : GoodIn wq_X9_number (wsV RX9 150 RX9 yX9_next wq_X9_next) := goodIn_app (goodIn_r _ [12, 13, 14, 9] rfl rfl) (goodIn_ca (goodIn_r _ [19, 1, 3, 4, 5] rfl rfl) gs_wq_X9_number_wsX90)
set_option maxHeartbeats 4000000 in
set_option maxRecDepth 100000 in
theorem c_X9_number (l : Launch) (dC : Nat → ClassId) (dI : Nat → Nat → Nat) (h0 : Nat) (ar : Nat → Nat) (ca : Nat → ClassId) (p0 : Int32) (p1 : Int32) (p2 : Int32) (st st' : RS) (r : Int32) (hf : x9_number p0 p1 p2 st = some (r, st')) (sz : Nat) : Met l yX9_number wq_X9_number ({ frames := 1, cells := 0, slots := 0, locals := 26 }) (va_Pc [.ref h0, .int p0, .int p1, .int p2] (Pr (dC, dI) (rT ca) [] (RW h0 ar ca st) sz)) (va_Qi (fun r' (_ : Unit) => r' = r) (Bq (dC, dI) (fun _ => RW h0 ar ca st') (fun _ => []) (va_A (RW h0 ar ca st) sz)) (va_A (RW h0 ar ca st) sz)) 0 0 (va_A (RW h0 ar ca st) sz) := by
  refine Met.ofW (cc := cX9_number) (maxL := 5) (ret := (some .int)) (by decide) rfl ?_
  intro p e s m args below meth c s₁ B hml hv
  obtain ⟨rfl, hsz, hP, hK, hD0, hN, hZ, hR⟩ := hv
  have hx := B.exec
  have hb := B.bytes
  have hr := B.returns
  have hts := atoms_spec (ws := wq_X9_number) B.pre
  have hown : s.vm.findClass RX9 = some m.cls := findClass_of_methodNamed B.named
  have iRX9 : ∀ w ∈ u_ws RX9 TX9 60, w ∈ wq_X9_number := fun w h => List.mem_cons_of_mem _ (List.mem_append_right _ h)
  subst hsz
  have hp : Rp (dC, dI) h0 ar ca (va_A (RW h0 ar ca st) s.heap.size) s.heap st s.heap [] := ⟨hP, hD0.self, va_S.rf⟩
  generalize hAe : va_A (RW h0 ar ca st) s.heap.size = A at hp hZ ⊢
  have hA : ∀ q : Nat, s.heap.size ≤ q → A q := fun q h => by rw [← hAe]; exact Or.inr h
  have hl := lv_entry ([.ref h0, .int p0, .int p1, .int p2]) (n := 5) (Nat.le_of_ble_eq_true rfl)
  rw [lg_entry_eq]
  generalize (lg_sl ([.ref h0, .int p0, .int p1, .int p2]) ++ List.replicate (5 - (lg_sl ([.ref h0, .int p0, .int p1, .int p2])).length) Slot.unset).toArray = ls at hl ⊢
  have hl : lv_has ls 5 [(0, .ref h0), (1, .int p0), (2, .int p1), (3, .int p2)] := hl
  refine W_blk (fun (u : Int32 × RS) H locs ls => match u with | (l4, st) => x9_number_138 l4 st = some (r, st') ∧ Rp (dC, dI) h0 ar ca A s.heap st H locs ∧ lv_has ls 5 [(0, .ref h0), (4, .int l4)]) (fun (u : Int32 × RS) ls => match u with | (l4, st) => F0 m 138 ls []) ?_ (fun J138 => ?_)
  · intro u H locs ls hu
    obtain ⟨l4, st⟩ := u
    obtain ⟨hf, hp, hl⟩ := hu
    show W p l e _ s m _ below meth c _ _ _ _ _ (F0 m 138 ls [])
    unfold x9_number_138 at hf
    refine lv_aload_n hx hb dX9_number_138 rfl (lv_at hl 0 rfl) ?_
    refine lv_iconst (v := 2) hx hb dX9_number_139 (by decide) ?_
    refine lv_aload_n hx hb dX9_number_140 rfl (lv_at hl 0 rfl) ?_
    refine r_gi hx hb hts iRX9 hown hK hp 17 (by decide) rfl (hts (.fieldLink RX9 147 "RecordBenchModel" "begun" "I") (by decide +kernel)) dX9_number_141 ?_
    obtain ⟨st_1, hc_2, hf⟩ := bnv_some hf
    refine r_cv hp hA (va_runV (As := [.int 2, .int (gI st 17)]) (rest := []) ⟨hx, hb, hml, hown, hts⟩ (c_X9_fail l dC dI h0 ar ca 2 (gI st 17) _ _ hc_2 _) (cwV 2 hts gq_X9_number_X9_fail_154 rfl rfl rfl (by decide +kernel) ⟨Nat.le_of_ble_eq_true rfl, Nat.le_of_ble_eq_true rfl⟩) ⟨Pr.blind _, va_recv hK hp.1 (ci := 11) (q0 := 0) rfl rfl, r_pre hp hK hN hZ hA⟩ rfl rfl hl.1 rfl (lv_room (Nat.le_of_ble_eq_true rfl)) dX9_number_144 ⟨Nat.le_of_ble_eq_true rfl, Nat.le_of_ble_eq_true rfl⟩) (fun H locs hp => ?_)
    refine lv_iload hx hb dX9_number_147 (lv_at hl 1 rfl) ?_
    obtain ⟨e1, e2⟩ := pr_some hf
    exact W.iret (v := l4) hx hb hr (fun t ht hW => ⟨⟨l4, (), rfl, e1, Rp.end e2 hp hK ht hW⟩, hp.2.2.F ht⟩) hp.2.2.2.2 dX9_number_149
  refine W_blk (fun (u : Int32 × Int32 × Int32 × RS) H locs ls => match u with | (l2, l3, l4, st) => x9_number_118 l2 l3 l4 st = some (r, st') ∧ Rp (dC, dI) h0 ar ca A s.heap st H locs ∧ lv_has ls 5 [(0, .ref h0), (2, .int l2), (3, .int l3), (4, .int l4)]) (fun (u : Int32 × Int32 × Int32 × RS) ls => match u with | (l2, l3, l4, st) => F0 m 118 ls []) ?_ (fun J118 => ?_)
  · intro u H locs ls hu
    obtain ⟨l2, l3, l4, st⟩ := u
    obtain ⟨hf, hp, hl⟩ := hu
    show W p l e _ s m _ below meth c _ _ _ _ _ (F0 m 118 ls [])
    unfold x9_number_118 at hf
    refine lv_aload_n hx hb dX9_number_118 rfl (lv_at hl 0 rfl) ?_
    refine lv_aload_n hx hb dX9_number_119 rfl (lv_at hl 0 rfl) ?_
    refine r_gi hx hb hts iRX9 hown hK hp 11 (by decide) rfl (hts (.fieldLink RX9 141 "RecordBenchModel" "at" "I") (by decide +kernel)) dX9_number_120 ?_
    refine r_pi (v := gI st 11) (ty := .int) hx hb hts iRX9 hown hK hp 18 (by decide) rfl (hts (.fieldLink RX9 162 "RecordBenchModel" "ended" "I") (by decide +kernel)) rfl (by decide +kernel) rfl rfl dX9_number_123 (fun H locs hp => ?_)
    obtain ⟨st_4, est_4, hf⟩ := nam_some hf
    rw [← est_4] at hp
    refine lv_iload hx hb dX9_number_126 (lv_at hl 3 rfl) ?_
    refine lv_iload_n hx hb dX9_number_128 rfl (lv_at hl 1 rfl) ?_
    refine lv_icmp_lt (tgt := 138) hx hb dX9_number_129 (by decide) (fun c_5 => ?_) (fun c_5 => ?_)
    · have hf := pif_t c_5 hf
      exact J138 (l4, st_4) _ _ _ ⟨hf, hp, (lv_sub hl [0, 3] rfl)⟩
    · have hf := pif_f c_5 hf
      refine lv_iload hx hb dX9_number_132 (lv_at hl 3 rfl) ?_
      refine lv_iload_n hx hb dX9_number_134 rfl (lv_at hl 2 rfl) ?_
      refine lv_icmp_le (tgt := 147) hx hb dX9_number_135 (by decide) (fun c_6 => ?_) (fun c_6 => ?_)
      · have hf := pif_t c_6 hf
        refine lv_iload hx hb dX9_number_147 (lv_at hl 3 rfl) ?_
        obtain ⟨e1, e2⟩ := pr_some hf
        exact W.iret (v := l4) hx hb hr (fun t ht hW => ⟨⟨l4, (), rfl, e1, Rp.end e2 hp hK ht hW⟩, hp.2.2.F ht⟩) hp.2.2.2.2 dX9_number_149
      · have hf := pif_f c_6 hf
        exact J138 (l4, st_4) _ _ _ ⟨hf, hp, (lv_sub hl [0, 3] rfl)⟩
  refine W_lp (fun n35 (u : Int32 × Int32 × Int32 × Int32 × RS) H locs ls => match u with | (l1, l2, l3, l4, st) => x9_number_35 n35 l1 l2 l3 l4 st = some (r, st') ∧ Rp (dC, dI) h0 ar ca A s.heap st H locs ∧ lv_has ls 5 [(0, .ref h0), (1, .int l1), (2, .int l2), (3, .int l3), (4, .int l4)]) (fun (u : Int32 × Int32 × Int32 × Int32 × RS) ls => match u with | (l1, l2, l3, l4, st) => F0 m 35 ls []) ?_ ?_ (fun J35 => ?_)
  · intro u H locs ls hu
    obtain ⟨l1, l2, l3, l4, st⟩ := u
    obtain ⟨hf, hp, hl⟩ := hu
    rw [x9_number_35_z] at hf
    cases hf
  · intro n35 ih35 u H locs ls hu
    obtain ⟨l1, l2, l3, l4, st⟩ := u
    obtain ⟨hf, hp, hl⟩ := hu
    show W p l e _ s m _ below meth c _ _ _ _ _ (F0 m 35 ls [])
    rw [x9_number_35_s] at hf
    refine lv_aload_n hx hb dX9_number_35 rfl (lv_at hl 0 rfl) ?_
    refine r_gi hx hb hts iRX9 hown hK hp 11 (by decide) rfl (hts (.fieldLink RX9 141 "RecordBenchModel" "at" "I") (by decide +kernel)) dX9_number_36 ?_
    refine lv_aload_n hx hb dX9_number_39 rfl (lv_at hl 0 rfl) ?_
    refine r_gi hx hb hts iRX9 hown hK hp 12 (by decide) rfl (hts (.fieldLink RX9 144 "RecordBenchModel" "size" "I") (by decide +kernel)) dX9_number_40 ?_
    refine lv_icmp_ge (tgt := 118) hx hb dX9_number_43 (by decide) (fun c_7 => ?_) (fun c_7 => ?_)
    · have hf := pif_t c_7 hf
      exact J118 (l2, l3, l4, st) _ _ _ ⟨hf, hp, (lv_sub hl [0, 2, 3, 4] rfl)⟩
    · have hf := pif_f c_7 hf
      refine lv_aload_n hx hb dX9_number_46 rfl (lv_at hl 0 rfl) ?_
      refine r_ga hx hb hts iRX9 hown hK hp 9 (by decide) (by decide) (hts (.fieldLink RX9 39 "RecordBenchModel" "tape" "[I") (by decide +kernel)) dX9_number_47 ?_
      refine lv_aload_n hx hb dX9_number_50 rfl (lv_at hl 0 rfl) ?_
      refine r_gi hx hb hts iRX9 hown hK hp 11 (by decide) rfl (hts (.fieldLink RX9 141 "RecordBenchModel" "at" "I") (by decide +kernel)) dX9_number_51 ?_
      obtain ⟨g_8, hf⟩ := gd_some hf
      refine r_ai (n := 400) hx hb hK hp 9 9 rfl rfl rfl g_8 dX9_number_54 ?_
      obtain ⟨r_11, st_9, hc_10, hf⟩ := bnd_some hf
      refine r_ci hp hA (va_runS (As := [.int (gF st 9 (gI st 11).toNatClampNeg)]) (rest := []) ⟨hx, hb, hml, hown, hts⟩ (c_X9_isDigit l dC dI h0 ar ca (gF st 9 (gI st 11).toNatClampNeg) _ _ _ hc_10 _) (cwS 1 hts gq_X9_number_X9_isDigit_158 rfl rfl rfl (by decide +kernel) ⟨Nat.le_of_ble_eq_true rfl, Nat.le_of_ble_eq_true rfl⟩) ⟨Pr.blind _, r_pre hp hK hN hZ hA⟩ rfl rfl hl.1 rfl (lv_room (Nat.le_of_ble_eq_true rfl)) dX9_number_55 ⟨Nat.le_of_ble_eq_true rfl, Nat.le_of_ble_eq_true rfl⟩) (fun H locs hp => ?_)
      refine lv_if_eq (tgt := 118) hx hb dX9_number_58 (by decide) (fun c_12 => ?_) (fun c_12 => ?_)
      · have hf := pif_t c_12 hf
        exact J118 (l2, l3, l4, st_9) _ _ _ ⟨hf, hp, (lv_sub hl [0, 2, 3, 4] rfl)⟩
      · have hf := pif_f c_12 hf
        refine lv_aload_n hx hb dX9_number_61 rfl (lv_at hl 0 rfl) ?_
        refine r_gi hx hb hts iRX9 hown hK hp 11 (by decide) rfl (hts (.fieldLink RX9 141 "RecordBenchModel" "at" "I") (by decide +kernel)) dX9_number_62 ?_
        refine lv_aload_n hx hb dX9_number_65 rfl (lv_at hl 0 rfl) ?_
        refine r_gi hx hb hts iRX9 hown hK hp 17 (by decide) rfl (hts (.fieldLink RX9 147 "RecordBenchModel" "begun" "I") (by decide +kernel)) dX9_number_66 ?_
        refine lv_isub hx hb dX9_number_69 ?_
        refine lv_iload_n hx hb dX9_number_70 rfl (lv_at hl 1 rfl) ?_
        refine lv_icmp_ne (tgt := 85) hx hb dX9_number_71 (by decide) (fun c_13 => ?_) (fun c_13 => ?_)
        · have hf := pif_f c_13 hf
          refine lv_bipush (v := 10) hx hb dX9_number_85 (by decide) ?_
          refine lv_iload hx hb dX9_number_87 (lv_at hl 4 rfl) ?_
          refine lv_imul hx hb dX9_number_89 ?_
          refine lv_aload_n hx hb dX9_number_90 rfl (lv_at hl 0 rfl) ?_
          refine r_ga hx hb hts iRX9 hown hK hp 9 (by decide) (by decide) (hts (.fieldLink RX9 39 "RecordBenchModel" "tape" "[I") (by decide +kernel)) dX9_number_91 ?_
          refine lv_aload_n hx hb dX9_number_94 rfl (lv_at hl 0 rfl) ?_
          refine r_gi hx hb hts iRX9 hown hK hp 11 (by decide) rfl (hts (.fieldLink RX9 141 "RecordBenchModel" "at" "I") (by decide +kernel)) dX9_number_95 ?_
          obtain ⟨g_14, hf⟩ := gd_some hf
          refine r_ai (n := 400) hx hb hK hp 9 9 rfl rfl rfl g_14 dX9_number_98 ?_
          refine lv_iadd hx hb dX9_number_99 ?_
          refine lv_bipush (v := 48) hx hb dX9_number_100 (by decide) ?_
          refine lv_isub hx hb dX9_number_102 ?_
          obtain ⟨v_15, ev_15, hf⟩ := nam_some hf
          refine W_toi (y := v_15) ev_15.symm ?_
          refine lv_istore (lv' := [(4, .int v_15), (0, .ref h0), (1, .int l1), (2, .int l2), (3, .int l3)]) hx hb dX9_number_103 hl (by decide) rfl (fun ls hl => ?_)
          refine lv_aload_n hx hb dX9_number_105 rfl (lv_at hl 1 rfl) ?_
          refine lv_dup hx hb dX9_number_106 rfl ?_
          refine r_gi hx hb hts iRX9 hown hK hp 11 (by decide) rfl (hts (.fieldLink RX9 141 "RecordBenchModel" "at" "I") (by decide +kernel)) dX9_number_107 ?_
          refine lv_iconst (v := 1) hx hb dX9_number_110 (by decide) ?_
          refine lv_iadd hx hb dX9_number_111 ?_
          refine r_pi (v := (gI st_9 11) + 1) (ty := .int) hx hb hts iRX9 hown hK hp 11 (by decide) rfl (hts (.fieldLink RX9 141 "RecordBenchModel" "at" "I") (by decide +kernel)) rfl (by decide +kernel) rfl rfl dX9_number_112 (fun H locs hp => ?_)
          obtain ⟨st_16, est_16, hf⟩ := nam_some hf
          rw [← est_16] at hp
          refine lv_goto (tgt := 35) hx hb dX9_number_115 (by decide) ?_
          exact ih35 (l1, l2, l3, v_15, st_16) _ _ _ ⟨hf, hp, (lv_sub hl [1, 2, 3, 4, 0] rfl)⟩
        · have hf := pif_t c_13 hf
          refine lv_aload_n hx hb dX9_number_74 rfl (lv_at hl 0 rfl) ?_
          refine lv_iconst (v := 1) hx hb dX9_number_75 (by decide) ?_
          refine lv_aload_n hx hb dX9_number_76 rfl (lv_at hl 0 rfl) ?_
          refine r_gi hx hb hts iRX9 hown hK hp 11 (by decide) rfl (hts (.fieldLink RX9 141 "RecordBenchModel" "at" "I") (by decide +kernel)) dX9_number_77 ?_
          obtain ⟨st_17, hc_18, hf⟩ := bnv_some hf
          refine r_cv hp hA (va_runV (As := [.int 1, .int (gI st_9 11)]) (rest := []) ⟨hx, hb, hml, hown, hts⟩ (c_X9_fail l dC dI h0 ar ca 1 (gI st_9 11) _ _ hc_18 _) (cwV 2 hts gq_X9_number_X9_fail_154 rfl rfl rfl (by decide +kernel) ⟨Nat.le_of_ble_eq_true rfl, Nat.le_of_ble_eq_true rfl⟩) ⟨Pr.blind _, va_recv hK hp.1 (ci := 11) (q0 := 0) rfl rfl, r_pre hp hK hN hZ hA⟩ rfl rfl hl.1 rfl (lv_room (Nat.le_of_ble_eq_true rfl)) dX9_number_80 ⟨Nat.le_of_ble_eq_true rfl, Nat.le_of_ble_eq_true rfl⟩) (fun H locs hp => ?_)
          refine lv_iconst (v := 0) hx hb dX9_number_83 (by decide) ?_
          obtain ⟨e1, e2⟩ := pr_some hf
          exact W.iret (v := 0) hx hb hr (fun t ht hW => ⟨⟨0, (), rfl, e1, Rp.end e2 hp hK ht hW⟩, hp.2.2.F ht⟩) hp.2.2.2.2 dX9_number_84
  refine W_blk (fun (st : RS) H locs ls => x9_number_21 st = some (r, st') ∧ Rp (dC, dI) h0 ar ca A s.heap st H locs ∧ lv_has ls 5 [(0, .ref h0)]) (fun (st : RS) ls => F0 m 21 ls []) ?_ (fun J21 => ?_)
  · intro u H locs ls hu
    obtain ⟨st, rfl⟩ : ∃ z, z = u := ⟨_, rfl⟩
    obtain ⟨hf, hp, hl⟩ := hu
    show W p l e _ s m _ below meth c _ _ _ _ _ (F0 m 21 ls [])
    unfold x9_number_21 at hf
    refine lv_aload_n hx hb dX9_number_21 rfl (lv_at hl 0 rfl) ?_
    refine lv_iconst (v := 1) hx hb dX9_number_22 (by decide) ?_
    refine lv_aload_n hx hb dX9_number_23 rfl (lv_at hl 0 rfl) ?_
    refine r_gi hx hb hts iRX9 hown hK hp 11 (by decide) rfl (hts (.fieldLink RX9 141 "RecordBenchModel" "at" "I") (by decide +kernel)) dX9_number_24 ?_
    obtain ⟨st_20, hc_21, hf⟩ := bnv_some hf
    refine r_cv hp hA (va_runV (As := [.int 1, .int (gI st 11)]) (rest := []) ⟨hx, hb, hml, hown, hts⟩ (c_X9_fail l dC dI h0 ar ca 1 (gI st 11) _ _ hc_21 _) (cwV 2 hts gq_X9_number_X9_fail_154 rfl rfl rfl (by decide +kernel) ⟨Nat.le_of_ble_eq_true rfl, Nat.le_of_ble_eq_true rfl⟩) ⟨Pr.blind _, va_recv hK hp.1 (ci := 11) (q0 := 0) rfl rfl, r_pre hp hK hN hZ hA⟩ rfl rfl hl.1 rfl (lv_room (Nat.le_of_ble_eq_true rfl)) dX9_number_27 ⟨Nat.le_of_ble_eq_true rfl, Nat.le_of_ble_eq_true rfl⟩) (fun H locs hp => ?_)
    refine lv_iconst (v := 0) hx hb dX9_number_30 (by decide) ?_
    obtain ⟨e1, e2⟩ := pr_some hf
    exact W.iret (v := 0) hx hb hr (fun t ht hW => ⟨⟨0, (), rfl, e1, Rp.end e2 hp hK ht hW⟩, hp.2.2.F ht⟩) hp.2.2.2.2 dX9_number_31
  unfold x9_number at hf
  refine lv_aload_n hx hb dX9_number_0 rfl (lv_at hl 0 rfl) ?_
  obtain ⟨r_25, st_23, hc_24, hf⟩ := bnd_some hf
  refine r_ci hp hA (va_runV (As := []) (rest := []) ⟨hx, hb, hml, hown, hts⟩ (c_X9_next l dC dI h0 ar ca  _ _ _ hc_24 _) (cwV 0 hts gq_X9_number_X9_next_150 rfl rfl rfl (by decide +kernel) ⟨Nat.le_of_ble_eq_true rfl, Nat.le_of_ble_eq_true rfl⟩) ⟨Pr.blind _, va_recv hK hp.1 (ci := 11) (q0 := 0) rfl rfl, r_pre hp hK hN hZ hA⟩ rfl rfl hl.1 rfl (lv_room (Nat.le_of_ble_eq_true rfl)) dX9_number_1 ⟨Nat.le_of_ble_eq_true rfl, Nat.le_of_ble_eq_true rfl⟩) (fun H locs hp => ?_)
  obtain ⟨r_28, st_26, hc_27, hf⟩ := bnd_some hf
  refine r_ci hp hA (va_runS (As := [.int r_25]) (rest := []) ⟨hx, hb, hml, hown, hts⟩ (c_X9_isDigit l dC dI h0 ar ca r_25 _ _ _ hc_27 _) (cwS 1 hts gq_X9_number_X9_isDigit_158 rfl rfl rfl (by decide +kernel) ⟨Nat.le_of_ble_eq_true rfl, Nat.le_of_ble_eq_true rfl⟩) ⟨Pr.blind _, r_pre hp hK hN hZ hA⟩ rfl rfl hl.1 rfl (lv_room (Nat.le_of_ble_eq_true rfl)) dX9_number_4 ⟨Nat.le_of_ble_eq_true rfl, Nat.le_of_ble_eq_true rfl⟩) (fun H locs hp => ?_)
  refine lv_if_eq (tgt := 21) hx hb dX9_number_7 (by decide) (fun c_29 => ?_) (fun c_29 => ?_)
  · have hf := pif_t c_29 hf
    exact J21 st_26 _ _ _ ⟨hf, hp, (lv_sub hl [0] rfl)⟩
  · have hf := pif_f c_29 hf
    refine lv_aload_n hx hb dX9_number_10 rfl (lv_at hl 0 rfl) ?_
    refine r_gi hx hb hts iRX9 hown hK hp 11 (by decide) rfl (hts (.fieldLink RX9 141 "RecordBenchModel" "at" "I") (by decide +kernel)) dX9_number_11 ?_
    refine lv_aload_n hx hb dX9_number_14 rfl (lv_at hl 0 rfl) ?_
    refine r_gi hx hb hts iRX9 hown hK hp 18 (by decide) rfl (hts (.fieldLink RX9 162 "RecordBenchModel" "ended" "I") (by decide +kernel)) dX9_number_15 ?_
    refine lv_icmp_ne (tgt := 32) hx hb dX9_number_18 (by decide) (fun c_30 => ?_) (fun c_30 => ?_)
    · have hf := pif_f c_30 hf
      refine lv_iconst (v := 0) hx hb dX9_number_32 (by decide) ?_
      refine lv_istore (lv' := [(4, .int 0), (0, .ref h0), (1, .int p0), (2, .int p1), (3, .int p2)]) hx hb dX9_number_33 hl (by decide) rfl (fun ls hl => ?_)
      exact J35 fuel (p0, p1, p2, 0, st_26) _ _ _ ⟨hf, hp, (lv_sub hl [1, 2, 3, 4, 0] rfl)⟩
    · have hf := pif_t c_30 hf
      exact J21 st_26 _ _ _ ⟨hf, hp, (lv_sub hl [0] rfl)⟩
noncomputable def x9_digit_21  (st : RS) : Option (Int32 × RS) := bnv (x9_fail 1 (gI st 11) st) (fun st_1 => some ((0 : Int32), st_1))
noncomputable def x9_digit  (st : RS) : Option (Int32 × RS) := bnd (x9_next st) (fun r_6 st_4 => bnd (x9_isDigit r_6 st_4) (fun r_9 st_7 => pif (r_9 = 0) (x9_digit_21  st_7) (pif ((gI st_7 11) = (gI st_7 18)) (x9_digit_21  st_7) (nam (sI st_7 11 ((gI st_7 11) + 1)) (fun st_12 => nam (sI st_12 18 (gI st_12 11)) (fun st_13 => gd (vp_in (gI st_13 17) 400) (some ((gF st_13 9 (gI st_13 17).toNatClampNeg) - 48, st_13))))))))
def wq_X9_digit : List Cond := .code yX9_digit cX9_digit 1 (some .int) :: (([.fieldLink RX9 141 "RecordBenchModel" "at" "I", .fieldLink RX9 162 "RecordBenchModel" "ended" "I", .fieldLink RX9 39 "RecordBenchModel" "tape" "[I", .fieldLink RX9 147 "RecordBenchModel" "begun" "I", .methodLink RX9 154 yX9_fail, .instanceMethod yX9_fail, .selects RX9 yX9_fail yX9_fail, .initialized RX9, .methodLink RX9 150 yX9_next, .instanceMethod yX9_next, .selects RX9 yX9_next yX9_next, .methodLink RX9 158 yX9_isDigit, .static yX9_isDigit, .code yX9_fail cX9_fail 3 none, .fieldLink RX9 135 "RecordBenchModel" "bad" "I", .fieldLink RX9 138 "RecordBenchModel" "badPlace" "I", .code yX9_next cX9_next 1 (some .int), .fieldLink RX9 144 "RecordBenchModel" "size" "I", .code yX9_isDigit cX9_isDigit 1 (some .boolean)] : List Cond) ++ wsX90)
theorem gs_wq_X9_digit_wsX90 : GoodIn wq_X9_digit wsX90 := fun w h => ⟨List.mem_cons_of_mem _ (List.mem_append_right _ h), (gt_wsX90 w h).2⟩
set_option maxRecDepth 20000 in
theorem gq_X9_digit_X9_fail_154 : GoodIn wq_X9_digit (wsV RX9 154 RX9 yX9_fail wq_X9_fail) := goodIn_app (goodIn_r _ [5, 6, 7, 8] rfl rfl) (goodIn_ca (goodIn_r _ [14, 15, 16] rfl rfl) gs_wq_X9_digit_wsX90)
set_option maxRecDepth 20000 in
theorem gq_X9_digit_X9_next_150 : GoodIn wq_X9_digit (wsV RX9 150 RX9 yX9_next wq_X9_next) := goodIn_app (goodIn_r _ [9, 10, 11, 8] rfl rfl) (goodIn_ca (goodIn_r _ [17, 1, 18, 3, 4] rfl rfl) gs_wq_X9_digit_wsX90)
set_option maxRecDepth 20000 in
theorem gq_X9_digit_X9_isDigit_158 : GoodIn wq_X9_digit (wsS RX9 158 yX9_isDigit wq_X9_isDigit) := goodIn_app (goodIn_r _ [12, 13, 8] rfl rfl) (goodIn_r _ [19] rfl rfl)
set_option maxHeartbeats 4000000 in
set_option maxRecDepth 100000 in
theorem c_X9_digit (l : Launch) (dC : Nat → ClassId) (dI : Nat → Nat → Nat) (h0 : Nat) (ar : Nat → Nat) (ca : Nat → ClassId)  (st st' : RS) (r : Int32) (hf : x9_digit  st = some (r, st')) (sz : Nat) : Met l yX9_digit wq_X9_digit ({ frames := 1, cells := 0, slots := 0, locals := 26 }) (va_Pc [.ref h0] (Pr (dC, dI) (rT ca) [] (RW h0 ar ca st) sz)) (va_Qi (fun r' (_ : Unit) => r' = r) (Bq (dC, dI) (fun _ => RW h0 ar ca st') (fun _ => []) (va_A (RW h0 ar ca st) sz)) (va_A (RW h0 ar ca st) sz)) 0 0 (va_A (RW h0 ar ca st) sz) := by
  refine Met.ofW (cc := cX9_digit) (maxL := 1) (ret := (some .int)) (by decide) rfl ?_
  intro p e s m args below meth c s₁ B hml hv
  obtain ⟨rfl, hsz, hP, hK, hD0, hN, hZ, hR⟩ := hv
  have hx := B.exec
  have hb := B.bytes
  have hr := B.returns
  have hts := atoms_spec (ws := wq_X9_digit) B.pre
  have hown : s.vm.findClass RX9 = some m.cls := findClass_of_methodNamed B.named
  have iRX9 : ∀ w ∈ u_ws RX9 TX9 60, w ∈ wq_X9_digit := fun w h => List.mem_cons_of_mem _ (List.mem_append_right _ h)
  subst hsz
  have hp : Rp (dC, dI) h0 ar ca (va_A (RW h0 ar ca st) s.heap.size) s.heap st s.heap [] := ⟨hP, hD0.self, va_S.rf⟩
  generalize hAe : va_A (RW h0 ar ca st) s.heap.size = A at hp hZ ⊢
  have hA : ∀ q : Nat, s.heap.size ≤ q → A q := fun q h => by rw [← hAe]; exact Or.inr h
  have hl := lv_entry ([.ref h0]) (n := 1) (Nat.le_of_ble_eq_true rfl)
  rw [lg_entry_eq]
  generalize (lg_sl ([.ref h0]) ++ List.replicate (1 - (lg_sl ([.ref h0])).length) Slot.unset).toArray = ls at hl ⊢
  have hl : lv_has ls 1 [(0, .ref h0)] := hl
  refine W_blk (fun (st : RS) H locs ls => x9_digit_21 st = some (r, st') ∧ Rp (dC, dI) h0 ar ca A s.heap st H locs ∧ lv_has ls 1 [(0, .ref h0)]) (fun (st : RS) ls => F0 m 21 ls []) ?_ (fun J21 => ?_)
  · intro u H locs ls hu
    obtain ⟨st, rfl⟩ : ∃ z, z = u := ⟨_, rfl⟩
    obtain ⟨hf, hp, hl⟩ := hu
    show W p l e _ s m _ below meth c _ _ _ _ _ (F0 m 21 ls [])
    unfold x9_digit_21 at hf
    refine lv_aload_n hx hb dX9_digit_21 rfl (lv_at hl 0 rfl) ?_
    refine lv_iconst (v := 1) hx hb dX9_digit_22 (by decide) ?_
    refine lv_aload_n hx hb dX9_digit_23 rfl (lv_at hl 0 rfl) ?_
    refine r_gi hx hb hts iRX9 hown hK hp 11 (by decide) rfl (hts (.fieldLink RX9 141 "RecordBenchModel" "at" "I") (by decide +kernel)) dX9_digit_24 ?_
    obtain ⟨st_1, hc_2, hf⟩ := bnv_some hf
    refine r_cv hp hA (va_runV (As := [.int 1, .int (gI st 11)]) (rest := []) ⟨hx, hb, hml, hown, hts⟩ (c_X9_fail l dC dI h0 ar ca 1 (gI st 11) _ _ hc_2 _) (cwV 2 hts gq_X9_digit_X9_fail_154 rfl rfl rfl (by decide +kernel) ⟨Nat.le_of_ble_eq_true rfl, Nat.le_of_ble_eq_true rfl⟩) ⟨Pr.blind _, va_recv hK hp.1 (ci := 11) (q0 := 0) rfl rfl, r_pre hp hK hN hZ hA⟩ rfl rfl hl.1 rfl (lv_room (Nat.le_of_ble_eq_true rfl)) dX9_digit_27 ⟨Nat.le_of_ble_eq_true rfl, Nat.le_of_ble_eq_true rfl⟩) (fun H locs hp => ?_)
    refine lv_iconst (v := 0) hx hb dX9_digit_30 (by decide) ?_
    obtain ⟨e1, e2⟩ := pr_some hf
    exact W.iret (v := 0) hx hb hr (fun t ht hW => ⟨⟨0, (), rfl, e1, Rp.end e2 hp hK ht hW⟩, hp.2.2.F ht⟩) hp.2.2.2.2 dX9_digit_31
  unfold x9_digit at hf
  refine lv_aload_n hx hb dX9_digit_0 rfl (lv_at hl 0 rfl) ?_
  obtain ⟨r_6, st_4, hc_5, hf⟩ := bnd_some hf
  refine r_ci hp hA (va_runV (As := []) (rest := []) ⟨hx, hb, hml, hown, hts⟩ (c_X9_next l dC dI h0 ar ca  _ _ _ hc_5 _) (cwV 0 hts gq_X9_digit_X9_next_150 rfl rfl rfl (by decide +kernel) ⟨Nat.le_of_ble_eq_true rfl, Nat.le_of_ble_eq_true rfl⟩) ⟨Pr.blind _, va_recv hK hp.1 (ci := 11) (q0 := 0) rfl rfl, r_pre hp hK hN hZ hA⟩ rfl rfl hl.1 rfl (lv_room (Nat.le_of_ble_eq_true rfl)) dX9_digit_1 ⟨Nat.le_of_ble_eq_true rfl, Nat.le_of_ble_eq_true rfl⟩) (fun H locs hp => ?_)
  obtain ⟨r_9, st_7, hc_8, hf⟩ := bnd_some hf
  refine r_ci hp hA (va_runS (As := [.int r_6]) (rest := []) ⟨hx, hb, hml, hown, hts⟩ (c_X9_isDigit l dC dI h0 ar ca r_6 _ _ _ hc_8 _) (cwS 1 hts gq_X9_digit_X9_isDigit_158 rfl rfl rfl (by decide +kernel) ⟨Nat.le_of_ble_eq_true rfl, Nat.le_of_ble_eq_true rfl⟩) ⟨Pr.blind _, r_pre hp hK hN hZ hA⟩ rfl rfl hl.1 rfl (lv_room (Nat.le_of_ble_eq_true rfl)) dX9_digit_4 ⟨Nat.le_of_ble_eq_true rfl, Nat.le_of_ble_eq_true rfl⟩) (fun H locs hp => ?_)
  refine lv_if_eq (tgt := 21) hx hb dX9_digit_7 (by decide) (fun c_10 => ?_) (fun c_10 => ?_)
  · have hf := pif_t c_10 hf
    exact J21 st_7 _ _ _ ⟨hf, hp, (lv_sub hl [0] rfl)⟩
  · have hf := pif_f c_10 hf
    refine lv_aload_n hx hb dX9_digit_10 rfl (lv_at hl 0 rfl) ?_
    refine r_gi hx hb hts iRX9 hown hK hp 11 (by decide) rfl (hts (.fieldLink RX9 141 "RecordBenchModel" "at" "I") (by decide +kernel)) dX9_digit_11 ?_
    refine lv_aload_n hx hb dX9_digit_14 rfl (lv_at hl 0 rfl) ?_
    refine r_gi hx hb hts iRX9 hown hK hp 18 (by decide) rfl (hts (.fieldLink RX9 162 "RecordBenchModel" "ended" "I") (by decide +kernel)) dX9_digit_15 ?_
    refine lv_icmp_ne (tgt := 32) hx hb dX9_digit_18 (by decide) (fun c_11 => ?_) (fun c_11 => ?_)
    · have hf := pif_f c_11 hf
      refine lv_aload_n hx hb dX9_digit_32 rfl (lv_at hl 0 rfl) ?_
      refine lv_dup hx hb dX9_digit_33 rfl ?_
      refine r_gi hx hb hts iRX9 hown hK hp 11 (by decide) rfl (hts (.fieldLink RX9 141 "RecordBenchModel" "at" "I") (by decide +kernel)) dX9_digit_34 ?_
      refine lv_iconst (v := 1) hx hb dX9_digit_37 (by decide) ?_
      refine lv_iadd hx hb dX9_digit_38 ?_
      refine r_pi (v := (gI st_7 11) + 1) (ty := .int) hx hb hts iRX9 hown hK hp 11 (by decide) rfl (hts (.fieldLink RX9 141 "RecordBenchModel" "at" "I") (by decide +kernel)) rfl (by decide +kernel) rfl rfl dX9_digit_39 (fun H locs hp => ?_)
      obtain ⟨st_12, est_12, hf⟩ := nam_some hf
      rw [← est_12] at hp
      refine lv_aload_n hx hb dX9_digit_42 rfl (lv_at hl 0 rfl) ?_
      refine lv_aload_n hx hb dX9_digit_43 rfl (lv_at hl 0 rfl) ?_
      refine r_gi hx hb hts iRX9 hown hK hp 11 (by decide) rfl (hts (.fieldLink RX9 141 "RecordBenchModel" "at" "I") (by decide +kernel)) dX9_digit_44 ?_
      refine r_pi (v := gI st_12 11) (ty := .int) hx hb hts iRX9 hown hK hp 18 (by decide) rfl (hts (.fieldLink RX9 162 "RecordBenchModel" "ended" "I") (by decide +kernel)) rfl (by decide +kernel) rfl rfl dX9_digit_47 (fun H locs hp => ?_)
      obtain ⟨st_13, est_13, hf⟩ := nam_some hf
      rw [← est_13] at hp
      refine lv_aload_n hx hb dX9_digit_50 rfl (lv_at hl 0 rfl) ?_
      refine r_ga hx hb hts iRX9 hown hK hp 9 (by decide) (by decide) (hts (.fieldLink RX9 39 "RecordBenchModel" "tape" "[I") (by decide +kernel)) dX9_digit_51 ?_
      refine lv_aload_n hx hb dX9_digit_54 rfl (lv_at hl 0 rfl) ?_
      refine r_gi hx hb hts iRX9 hown hK hp 17 (by decide) rfl (hts (.fieldLink RX9 147 "RecordBenchModel" "begun" "I") (by decide +kernel)) dX9_digit_55 ?_
      obtain ⟨g_14, hf⟩ := gd_some hf
      refine r_ai (n := 400) hx hb hK hp 9 9 rfl rfl rfl g_14 dX9_digit_58 ?_
      refine lv_bipush (v := 48) hx hb dX9_digit_59 (by decide) ?_
      refine lv_isub hx hb dX9_digit_61 ?_
      obtain ⟨e1, e2⟩ := pr_some hf
      exact W.iret (v := (gF st_13 9 (gI st_13 17).toNatClampNeg) - 48) hx hb hr (fun t ht hW => ⟨⟨(gF st_13 9 (gI st_13 17).toNatClampNeg) - 48, (), rfl, e1, Rp.end e2 hp hK ht hW⟩, hp.2.2.F ht⟩) hp.2.2.2.2 dX9_digit_62
    · have hf := pif_t c_11 hf
      exact J21 st_7 _ _ _ ⟨hf, hp, (lv_sub hl [0] rfl)⟩
noncomputable def x9_ends  (st : RS) : Option (RS) := pif ((gI st 12) ≤ (gI st 11)) (some st) (gd (vp_in (gI st 11) 400) (bnd (x9_isDigit (gF st 9 (gI st 11).toNatClampNeg) st) (fun r_5 st_3 => pif (r_5 = 0) (some st_3) (bnv (x9_fail 1 (gI st_3 11) st_3) (fun st_7 => some st_7)))))
def wq_X9_ends : List Cond := .code yX9_ends cX9_ends 1 none :: (([.fieldLink RX9 141 "RecordBenchModel" "at" "I", .fieldLink RX9 144 "RecordBenchModel" "size" "I", .fieldLink RX9 39 "RecordBenchModel" "tape" "[I", .methodLink RX9 158 yX9_isDigit, .static yX9_isDigit, .initialized RX9, .methodLink RX9 154 yX9_fail, .instanceMethod yX9_fail, .selects RX9 yX9_fail yX9_fail, .code yX9_isDigit cX9_isDigit 1 (some .boolean), .code yX9_fail cX9_fail 3 none, .fieldLink RX9 135 "RecordBenchModel" "bad" "I", .fieldLink RX9 138 "RecordBenchModel" "badPlace" "I"] : List Cond) ++ wsX90)
set_option maxRecDepth 20000 in
theorem gq_X9_ends_X9_isDigit_158 : GoodIn wq_X9_ends (wsS RX9 158 yX9_isDigit wq_X9_isDigit) := goodIn_app (goodIn_r _ [4, 5, 6] rfl rfl) (goodIn_r _ [10] rfl rfl)
theorem gs_wq_X9_ends_wsX90 : GoodIn wq_X9_ends wsX90 := fun w h => ⟨List.mem_cons_of_mem _ (List.mem_append_right _ h), (gt_wsX90 w h).2⟩
set_option maxRecDepth 20000 in
theorem gq_X9_ends_X9_fail_154 : GoodIn wq_X9_ends (wsV RX9 154 RX9 yX9_fail wq_X9_fail) := goodIn_app (goodIn_r _ [7, 8, 9, 6] rfl rfl) (goodIn_ca (goodIn_r _ [11, 12, 13] rfl rfl) gs_wq_X9_ends_wsX90)
set_option maxHeartbeats 4000000 in
set_option maxRecDepth 100000 in
theorem c_X9_ends (l : Launch) (dC : Nat → ClassId) (dI : Nat → Nat → Nat) (h0 : Nat) (ar : Nat → Nat) (ca : Nat → ClassId)  (st st' : RS) (hf : x9_ends  st = some st') (sz : Nat) : Met l yX9_ends wq_X9_ends ({ frames := 1, cells := 0, slots := 0, locals := 26 }) (va_Pc [.ref h0] (Pr (dC, dI) (rT ca) [] (RW h0 ar ca st) sz)) (va_Qv (fun (_ : Unit) => True) (Bq (dC, dI) (fun _ => RW h0 ar ca st') (fun _ => []) (va_A (RW h0 ar ca st) sz)) (va_A (RW h0 ar ca st) sz)) 0 0 (va_A (RW h0 ar ca st) sz) := by
  refine Met.ofW (cc := cX9_ends) (maxL := 1) (ret := none) (by decide) rfl ?_
  intro p e s m args below meth c s₁ B hml hv
  obtain ⟨rfl, hsz, hP, hK, hD0, hN, hZ, hR⟩ := hv
  have hx := B.exec
  have hb := B.bytes
  have hr := B.returns
  have hts := atoms_spec (ws := wq_X9_ends) B.pre
  have hown : s.vm.findClass RX9 = some m.cls := findClass_of_methodNamed B.named
  have iRX9 : ∀ w ∈ u_ws RX9 TX9 60, w ∈ wq_X9_ends := fun w h => List.mem_cons_of_mem _ (List.mem_append_right _ h)
  subst hsz
  have hp : Rp (dC, dI) h0 ar ca (va_A (RW h0 ar ca st) s.heap.size) s.heap st s.heap [] := ⟨hP, hD0.self, va_S.rf⟩
  generalize hAe : va_A (RW h0 ar ca st) s.heap.size = A at hp hZ ⊢
  have hA : ∀ q : Nat, s.heap.size ≤ q → A q := fun q h => by rw [← hAe]; exact Or.inr h
  have hl := lv_entry ([.ref h0]) (n := 1) (Nat.le_of_ble_eq_true rfl)
  rw [lg_entry_eq]
  generalize (lg_sl ([.ref h0]) ++ List.replicate (1 - (lg_sl ([.ref h0])).length) Slot.unset).toArray = ls at hl ⊢
  have hl : lv_has ls 1 [(0, .ref h0)] := hl
  unfold x9_ends at hf
  refine lv_aload_n hx hb dX9_ends_0 rfl (lv_at hl 0 rfl) ?_
  refine r_gi hx hb hts iRX9 hown hK hp 11 (by decide) rfl (hts (.fieldLink RX9 141 "RecordBenchModel" "at" "I") (by decide +kernel)) dX9_ends_1 ?_
  refine lv_aload_n hx hb dX9_ends_4 rfl (lv_at hl 0 rfl) ?_
  refine r_gi hx hb hts iRX9 hown hK hp 12 (by decide) rfl (hts (.fieldLink RX9 144 "RecordBenchModel" "size" "I") (by decide +kernel)) dX9_ends_5 ?_
  refine lv_icmp_ge (tgt := 35) hx hb dX9_ends_8 (by decide) (fun c_1 => ?_) (fun c_1 => ?_)
  · have hf := pif_t c_1 hf
    have e2 := Option.some.inj hf
    exact W.vret hx hb hr (fun t ht hW => ⟨⟨(), rfl, trivial, Rp.end e2 hp hK ht hW⟩, hp.2.2.F ht⟩) hp.2.2.2.2 dX9_ends_35
  · have hf := pif_f c_1 hf
    refine lv_aload_n hx hb dX9_ends_11 rfl (lv_at hl 0 rfl) ?_
    refine r_ga hx hb hts iRX9 hown hK hp 9 (by decide) (by decide) (hts (.fieldLink RX9 39 "RecordBenchModel" "tape" "[I") (by decide +kernel)) dX9_ends_12 ?_
    refine lv_aload_n hx hb dX9_ends_15 rfl (lv_at hl 0 rfl) ?_
    refine r_gi hx hb hts iRX9 hown hK hp 11 (by decide) rfl (hts (.fieldLink RX9 141 "RecordBenchModel" "at" "I") (by decide +kernel)) dX9_ends_16 ?_
    obtain ⟨g_2, hf⟩ := gd_some hf
    refine r_ai (n := 400) hx hb hK hp 9 9 rfl rfl rfl g_2 dX9_ends_19 ?_
    obtain ⟨r_5, st_3, hc_4, hf⟩ := bnd_some hf
    refine r_ci hp hA (va_runS (As := [.int (gF st 9 (gI st 11).toNatClampNeg)]) (rest := []) ⟨hx, hb, hml, hown, hts⟩ (c_X9_isDigit l dC dI h0 ar ca (gF st 9 (gI st 11).toNatClampNeg) _ _ _ hc_4 _) (cwS 1 hts gq_X9_ends_X9_isDigit_158 rfl rfl rfl (by decide +kernel) ⟨Nat.le_of_ble_eq_true rfl, Nat.le_of_ble_eq_true rfl⟩) ⟨Pr.blind _, r_pre hp hK hN hZ hA⟩ rfl rfl hl.1 rfl (lv_room (Nat.le_of_ble_eq_true rfl)) dX9_ends_20 ⟨Nat.le_of_ble_eq_true rfl, Nat.le_of_ble_eq_true rfl⟩) (fun H locs hp => ?_)
    refine lv_if_eq (tgt := 35) hx hb dX9_ends_23 (by decide) (fun c_6 => ?_) (fun c_6 => ?_)
    · have hf := pif_t c_6 hf
      have e2 := Option.some.inj hf
      exact W.vret hx hb hr (fun t ht hW => ⟨⟨(), rfl, trivial, Rp.end e2 hp hK ht hW⟩, hp.2.2.F ht⟩) hp.2.2.2.2 dX9_ends_35
    · have hf := pif_f c_6 hf
      refine lv_aload_n hx hb dX9_ends_26 rfl (lv_at hl 0 rfl) ?_
      refine lv_iconst (v := 1) hx hb dX9_ends_27 (by decide) ?_
      refine lv_aload_n hx hb dX9_ends_28 rfl (lv_at hl 0 rfl) ?_
      refine r_gi hx hb hts iRX9 hown hK hp 11 (by decide) rfl (hts (.fieldLink RX9 141 "RecordBenchModel" "at" "I") (by decide +kernel)) dX9_ends_29 ?_
      obtain ⟨st_7, hc_8, hf⟩ := bnv_some hf
      refine r_cv hp hA (va_runV (As := [.int 1, .int (gI st_3 11)]) (rest := []) ⟨hx, hb, hml, hown, hts⟩ (c_X9_fail l dC dI h0 ar ca 1 (gI st_3 11) _ _ hc_8 _) (cwV 2 hts gq_X9_ends_X9_fail_154 rfl rfl rfl (by decide +kernel) ⟨Nat.le_of_ble_eq_true rfl, Nat.le_of_ble_eq_true rfl⟩) ⟨Pr.blind _, va_recv hK hp.1 (ci := 11) (q0 := 0) rfl rfl, r_pre hp hK hN hZ hA⟩ rfl rfl hl.1 rfl (lv_room (Nat.le_of_ble_eq_true rfl)) dX9_ends_32 ⟨Nat.le_of_ble_eq_true rfl, Nat.le_of_ble_eq_true rfl⟩) (fun H locs hp => ?_)
      have e2 := Option.some.inj hf
      exact W.vret hx hb hr (fun t ht hW => ⟨⟨(), rfl, trivial, Rp.end e2 hp hK ht hW⟩, hp.2.2.F ht⟩) hp.2.2.2.2 dX9_ends_35
noncomputable def x9_wordEnd_5  : Nat → Int32 → RS → Option (Int32 × RS)
  | 0 => fun _ _ => none
  | n + 1 => fun l1 st => pif ((gI st 12) ≤ l1) (some (l1, st)) (gd (vp_in l1 400) (bnd (x9_isLetter (gF st 9 l1.toNatClampNeg) st) (fun r_5 st_3 => pif (r_5 = 0) (some (l1, st_3)) (nam (l1 + 1) (fun v_7 => (x9_wordEnd_5 n) v_7 st_3)))))
theorem x9_wordEnd_5_z  (l1 : Int32) (st : RS) : x9_wordEnd_5  0 l1 st = none := rfl
theorem x9_wordEnd_5_s  (n : Nat) (l1 : Int32) (st : RS) : x9_wordEnd_5  (n + 1) l1 st = pif ((gI st 12) ≤ l1) (some (l1, st)) (gd (vp_in l1 400) (bnd (x9_isLetter (gF st 9 l1.toNatClampNeg) st) (fun r_5 st_3 => pif (r_5 = 0) (some (l1, st_3)) (nam (l1 + 1) (fun v_7 => (x9_wordEnd_5 n) v_7 st_3))))) := rfl
noncomputable def x9_wordEnd  (st : RS) : Option (Int32 × RS) := nam (gI st 11) (fun v_8 => x9_wordEnd_5  fuel v_8 st)
def wq_X9_wordEnd : List Cond := .code yX9_wordEnd cX9_wordEnd 2 (some .int) :: (([.fieldLink RX9 141 "RecordBenchModel" "at" "I", .fieldLink RX9 144 "RecordBenchModel" "size" "I", .fieldLink RX9 39 "RecordBenchModel" "tape" "[I", .methodLink RX9 165 yX9_isLetter, .static yX9_isLetter, .initialized RX9, .code yX9_isLetter cX9_isLetter 1 (some .boolean)] : List Cond) ++ wsX90)
set_option maxRecDepth 20000 in
theorem gq_X9_wordEnd_X9_isLetter_165 : GoodIn wq_X9_wordEnd (wsS RX9 165 yX9_isLetter wq_X9_isLetter) := goodIn_app (goodIn_r _ [4, 5, 6] rfl rfl) (goodIn_r _ [7] rfl rfl)
set_option maxHeartbeats 4000000 in
set_option maxRecDepth 100000 in
theorem c_X9_wordEnd (l : Launch) (dC : Nat → ClassId) (dI : Nat → Nat → Nat) (h0 : Nat) (ar : Nat → Nat) (ca : Nat → ClassId)  (st st' : RS) (r : Int32) (hf : x9_wordEnd  st = some (r, st')) (sz : Nat) : Met l yX9_wordEnd wq_X9_wordEnd ({ frames := 1, cells := 0, slots := 0, locals := 24 }) (va_Pc [.ref h0] (Pr (dC, dI) (rT ca) [] (RW h0 ar ca st) sz)) (va_Qi (fun r' (_ : Unit) => r' = r) (Bq (dC, dI) (fun _ => RW h0 ar ca st') (fun _ => []) (va_A (RW h0 ar ca st) sz)) (va_A (RW h0 ar ca st) sz)) 0 0 (va_A (RW h0 ar ca st) sz) := by
  refine Met.ofW (cc := cX9_wordEnd) (maxL := 2) (ret := (some .int)) (by decide) rfl ?_
  intro p e s m args below meth c s₁ B hml hv
  obtain ⟨rfl, hsz, hP, hK, hD0, hN, hZ, hR⟩ := hv
  have hx := B.exec
  have hb := B.bytes
  have hr := B.returns
  have hts := atoms_spec (ws := wq_X9_wordEnd) B.pre
  have hown : s.vm.findClass RX9 = some m.cls := findClass_of_methodNamed B.named
  have iRX9 : ∀ w ∈ u_ws RX9 TX9 60, w ∈ wq_X9_wordEnd := fun w h => List.mem_cons_of_mem _ (List.mem_append_right _ h)
  subst hsz
  have hp : Rp (dC, dI) h0 ar ca (va_A (RW h0 ar ca st) s.heap.size) s.heap st s.heap [] := ⟨hP, hD0.self, va_S.rf⟩
  generalize hAe : va_A (RW h0 ar ca st) s.heap.size = A at hp hZ ⊢
  have hA : ∀ q : Nat, s.heap.size ≤ q → A q := fun q h => by rw [← hAe]; exact Or.inr h
  have hl := lv_entry ([.ref h0]) (n := 2) (Nat.le_of_ble_eq_true rfl)
  rw [lg_entry_eq]
  generalize (lg_sl ([.ref h0]) ++ List.replicate (2 - (lg_sl ([.ref h0])).length) Slot.unset).toArray = ls at hl ⊢
  have hl : lv_has ls 2 [(0, .ref h0)] := hl
  refine W_lp (fun n5 (u : Int32 × RS) H locs ls => match u with | (l1, st) => x9_wordEnd_5 n5 l1 st = some (r, st') ∧ Rp (dC, dI) h0 ar ca A s.heap st H locs ∧ lv_has ls 2 [(0, .ref h0), (1, .int l1)]) (fun (u : Int32 × RS) ls => match u with | (l1, st) => F0 m 5 ls []) ?_ ?_ (fun J5 => ?_)
  · intro u H locs ls hu
    obtain ⟨l1, st⟩ := u
    obtain ⟨hf, hp, hl⟩ := hu
    rw [x9_wordEnd_5_z] at hf
    cases hf
  · intro n5 ih5 u H locs ls hu
    obtain ⟨l1, st⟩ := u
    obtain ⟨hf, hp, hl⟩ := hu
    show W p l e _ s m _ below meth c _ _ _ _ _ (F0 m 5 ls [])
    rw [x9_wordEnd_5_s] at hf
    refine lv_iload_n hx hb dX9_wordEnd_5 rfl (lv_at hl 1 rfl) ?_
    refine lv_aload_n hx hb dX9_wordEnd_6 rfl (lv_at hl 0 rfl) ?_
    refine r_gi hx hb hts iRX9 hown hK hp 12 (by decide) rfl (hts (.fieldLink RX9 144 "RecordBenchModel" "size" "I") (by decide +kernel)) dX9_wordEnd_7 ?_
    refine lv_icmp_ge (tgt := 31) hx hb dX9_wordEnd_10 (by decide) (fun c_1 => ?_) (fun c_1 => ?_)
    · have hf := pif_t c_1 hf
      refine lv_iload_n hx hb dX9_wordEnd_31 rfl (lv_at hl 1 rfl) ?_
      obtain ⟨e1, e2⟩ := pr_some hf
      exact W.iret (v := l1) hx hb hr (fun t ht hW => ⟨⟨l1, (), rfl, e1, Rp.end e2 hp hK ht hW⟩, hp.2.2.F ht⟩) hp.2.2.2.2 dX9_wordEnd_32
    · have hf := pif_f c_1 hf
      refine lv_aload_n hx hb dX9_wordEnd_13 rfl (lv_at hl 0 rfl) ?_
      refine r_ga hx hb hts iRX9 hown hK hp 9 (by decide) (by decide) (hts (.fieldLink RX9 39 "RecordBenchModel" "tape" "[I") (by decide +kernel)) dX9_wordEnd_14 ?_
      refine lv_iload_n hx hb dX9_wordEnd_17 rfl (lv_at hl 1 rfl) ?_
      obtain ⟨g_2, hf⟩ := gd_some hf
      refine r_ai (n := 400) hx hb hK hp 9 9 rfl rfl rfl g_2 dX9_wordEnd_18 ?_
      obtain ⟨r_5, st_3, hc_4, hf⟩ := bnd_some hf
      refine r_ci hp hA (va_runS (As := [.int (gF st 9 l1.toNatClampNeg)]) (rest := []) ⟨hx, hb, hml, hown, hts⟩ (c_X9_isLetter l dC dI h0 ar ca (gF st 9 l1.toNatClampNeg) _ _ _ hc_4 _) (cwS 1 hts gq_X9_wordEnd_X9_isLetter_165 rfl rfl rfl (by decide +kernel) ⟨Nat.le_of_ble_eq_true rfl, Nat.le_of_ble_eq_true rfl⟩) ⟨Pr.blind _, r_pre hp hK hN hZ hA⟩ rfl rfl hl.1 rfl (lv_room (Nat.le_of_ble_eq_true rfl)) dX9_wordEnd_19 ⟨Nat.le_of_ble_eq_true rfl, Nat.le_of_ble_eq_true rfl⟩) (fun H locs hp => ?_)
      refine lv_if_eq (tgt := 31) hx hb dX9_wordEnd_22 (by decide) (fun c_6 => ?_) (fun c_6 => ?_)
      · have hf := pif_t c_6 hf
        refine lv_iload_n hx hb dX9_wordEnd_31 rfl (lv_at hl 1 rfl) ?_
        obtain ⟨e1, e2⟩ := pr_some hf
        exact W.iret (v := l1) hx hb hr (fun t ht hW => ⟨⟨l1, (), rfl, e1, Rp.end e2 hp hK ht hW⟩, hp.2.2.F ht⟩) hp.2.2.2.2 dX9_wordEnd_32
      · have hf := pif_f c_6 hf
        obtain ⟨v_7, ev_7, hf⟩ := nam_some hf
        refine lv_iinc (v := v_7) (lv' := [(1, .int v_7), (0, .ref h0)]) hx hb dX9_wordEnd_25 hl (k := 1) rfl ev_7.symm (by decide) rfl (fun ls hl => ?_)
        refine lv_goto (tgt := 5) hx hb dX9_wordEnd_28 (by decide) ?_
        exact ih5 (v_7, st_3) _ _ _ ⟨hf, hp, (lv_sub hl [1, 0] rfl)⟩
  unfold x9_wordEnd at hf
  refine lv_aload_n hx hb dX9_wordEnd_0 rfl (lv_at hl 0 rfl) ?_
  refine r_gi hx hb hts iRX9 hown hK hp 11 (by decide) rfl (hts (.fieldLink RX9 141 "RecordBenchModel" "at" "I") (by decide +kernel)) dX9_wordEnd_1 ?_
  obtain ⟨v_8, ev_8, hf⟩ := nam_some hf
  refine W_toi (y := v_8) ev_8.symm ?_
  refine lv_istore_n (lv' := [(1, .int v_8), (0, .ref h0)]) hx hb dX9_wordEnd_4 rfl hl (by decide) rfl (fun ls hl => ?_)
  exact J5 fuel (v_8, st) _ _ _ ⟨hf, hp, (lv_sub hl [1, 0] rfl)⟩
noncomputable def x9_word_33  : Nat → Int64 → Int32 → Int32 → RS → Option (Int64 × RS)
  | 0 => fun _ _ _ _ => none
  | n + 1 => fun l1 l3 l4 st => pif (l3 ≤ l4) (some (l1, st)) (gd (vp_in l4 400) (nam ((((27 * l1) + ((gF st 9 l4.toNatClampNeg).toInt64)) - 97) + 1) (fun v_3 => nam (l4 + 1) (fun v_4 => (x9_word_33 n) v_3 l3 v_4 st))))
theorem x9_word_33_z  (l1 : Int64) (l3 : Int32) (l4 : Int32) (st : RS) : x9_word_33  0 l1 l3 l4 st = none := rfl
theorem x9_word_33_s  (n : Nat) (l1 : Int64) (l3 : Int32) (l4 : Int32) (st : RS) : x9_word_33  (n + 1) l1 l3 l4 st = pif (l3 ≤ l4) (some (l1, st)) (gd (vp_in l4 400) (nam ((((27 * l1) + ((gF st 9 l4.toNatClampNeg).toInt64)) - 97) + 1) (fun v_3 => nam (l4 + 1) (fun v_4 => (x9_word_33 n) v_3 l3 v_4 st)))) := rfl
noncomputable def x9_word  (st : RS) : Option (Int64 × RS) := bnd (x9_next st) (fun r_7 st_5 => bnd (x9_wordEnd st_5) (fun r_10 st_8 => pif ((r_10 - (gI st_8 11)) ≤ 8) (nam (gI st_8 11) (fun v_12 => x9_word_33  fuel 0 r_10 v_12 st_8)) (some (((-1) : Int64), st_8))))
def wq_X9_word : List Cond := .code yX9_word cX9_word 5 (some .long) :: (([.fieldLink RX9 141 "RecordBenchModel" "at" "I", .constantLong RX9 175 (-1), .constantLong RX9 168 (27), .fieldLink RX9 39 "RecordBenchModel" "tape" "[I", .constantLong RX9 170 (97), .methodLink RX9 150 yX9_next, .instanceMethod yX9_next, .selects RX9 yX9_next yX9_next, .initialized RX9, .methodLink RX9 172 yX9_wordEnd, .instanceMethod yX9_wordEnd, .selects RX9 yX9_wordEnd yX9_wordEnd, .code yX9_next cX9_next 1 (some .int), .fieldLink RX9 144 "RecordBenchModel" "size" "I", .fieldLink RX9 147 "RecordBenchModel" "begun" "I", .code yX9_wordEnd cX9_wordEnd 2 (some .int), .methodLink RX9 165 yX9_isLetter, .static yX9_isLetter, .code yX9_isLetter cX9_isLetter 1 (some .boolean)] : List Cond) ++ wsX90)
theorem gs_wq_X9_word_wsX90 : GoodIn wq_X9_word wsX90 := fun w h => ⟨List.mem_cons_of_mem _ (List.mem_append_right _ h), (gt_wsX90 w h).2⟩
set_option maxRecDepth 20000 in
theorem gq_X9_word_X9_next_150 : GoodIn wq_X9_word (wsV RX9 150 RX9 yX9_next wq_X9_next) := goodIn_app (goodIn_r _ [6, 7, 8, 9] rfl rfl) (goodIn_ca (goodIn_r _ [13, 1, 14, 4, 15] rfl rfl) gs_wq_X9_word_wsX90)
set_option maxRecDepth 20000 in
theorem gq_X9_word_X9_wordEnd_172 : GoodIn wq_X9_word (wsV RX9 172 RX9 yX9_wordEnd wq_X9_wordEnd) := goodIn_app (goodIn_r _ [10, 11, 12, 9] rfl rfl) (goodIn_ca (goodIn_r _ [16, 1, 14, 4, 17, 18, 9, 19] rfl rfl) gs_wq_X9_word_wsX90)
set_option maxHeartbeats 4000000 in
set_option maxRecDepth 100000 in
theorem c_X9_word (l : Launch) (dC : Nat → ClassId) (dI : Nat → Nat → Nat) (h0 : Nat) (ar : Nat → Nat) (ca : Nat → ClassId)  (st st' : RS) (r : Int64) (hf : x9_word  st = some (r, st')) (sz : Nat) : Met l yX9_word wq_X9_word ({ frames := 2, cells := 0, slots := 0, locals := 49 }) (va_Pc [.ref h0] (Pr (dC, dI) (rT ca) [] (RW h0 ar ca st) sz)) (va_Ql (fun r' (_ : Unit) => r' = r) (Bq (dC, dI) (fun _ => RW h0 ar ca st') (fun _ => []) (va_A (RW h0 ar ca st) sz)) (va_A (RW h0 ar ca st) sz)) 0 0 (va_A (RW h0 ar ca st) sz) := by
  refine Met.ofW (cc := cX9_word) (maxL := 5) (ret := (some .long)) (by decide) rfl ?_
  intro p e s m args below meth c s₁ B hml hv
  obtain ⟨rfl, hsz, hP, hK, hD0, hN, hZ, hR⟩ := hv
  have hx := B.exec
  have hb := B.bytes
  have hr := B.returns
  have hts := atoms_spec (ws := wq_X9_word) B.pre
  have hown : s.vm.findClass RX9 = some m.cls := findClass_of_methodNamed B.named
  have iRX9 : ∀ w ∈ u_ws RX9 TX9 60, w ∈ wq_X9_word := fun w h => List.mem_cons_of_mem _ (List.mem_append_right _ h)
  subst hsz
  have hp : Rp (dC, dI) h0 ar ca (va_A (RW h0 ar ca st) s.heap.size) s.heap st s.heap [] := ⟨hP, hD0.self, va_S.rf⟩
  generalize hAe : va_A (RW h0 ar ca st) s.heap.size = A at hp hZ ⊢
  have hA : ∀ q : Nat, s.heap.size ≤ q → A q := fun q h => by rw [← hAe]; exact Or.inr h
  have hl := lv_entry ([.ref h0]) (n := 5) (Nat.le_of_ble_eq_true rfl)
  rw [lg_entry_eq]
  generalize (lg_sl ([.ref h0]) ++ List.replicate (5 - (lg_sl ([.ref h0])).length) Slot.unset).toArray = ls at hl ⊢
  have hl : lv_has ls 5 [(0, .ref h0)] := hl
  refine W_lp (fun n33 (u : Int64 × Int32 × Int32 × RS) H locs ls => match u with | (l1, l3, l4, st) => x9_word_33 n33 l1 l3 l4 st = some (r, st') ∧ Rp (dC, dI) h0 ar ca A s.heap st H locs ∧ lv_has ls 5 [(0, .ref h0), (1, .long l1), (3, .int l3), (4, .int l4)]) (fun (u : Int64 × Int32 × Int32 × RS) ls => match u with | (l1, l3, l4, st) => F0 m 33 ls []) ?_ ?_ (fun J33 => ?_)
  · intro u H locs ls hu
    obtain ⟨l1, l3, l4, st⟩ := u
    obtain ⟨hf, hp, hl⟩ := hu
    rw [x9_word_33_z] at hf
    cases hf
  · intro n33 ih33 u H locs ls hu
    obtain ⟨l1, l3, l4, st⟩ := u
    obtain ⟨hf, hp, hl⟩ := hu
    show W p l e _ s m _ below meth c _ _ _ _ _ (F0 m 33 ls [])
    rw [x9_word_33_s] at hf
    refine lv_iload hx hb dX9_word_33 (lv_at hl 3 rfl) ?_
    refine lv_iload_n hx hb dX9_word_35 rfl (lv_at hl 2 rfl) ?_
    refine lv_icmp_ge (tgt := 66) hx hb dX9_word_36 (by decide) (fun c_1 => ?_) (fun c_1 => ?_)
    · have hf := pif_t c_1 hf
      refine lv_lload_n hx hb dX9_word_66 rfl (lv_at hl 1 rfl) ?_
      obtain ⟨e1, e2⟩ := pr_some hf
      exact W.lret (v := l1) hx hb hr (fun t ht hW => ⟨⟨l1, (), rfl, e1, Rp.end e2 hp hK ht hW⟩, hp.2.2.F ht⟩) hp.2.2.2.2 dX9_word_67
    · have hf := pif_f c_1 hf
      refine lv_ldc2 hx hb hown (hts (.constantLong RX9 168 (27)) (by decide +kernel)) dX9_word_39 ?_
      refine lv_lload_n hx hb dX9_word_42 rfl (lv_at hl 1 rfl) ?_
      refine lv_lmul hx hb dX9_word_43 ?_
      refine lv_aload_n hx hb dX9_word_44 rfl (lv_at hl 0 rfl) ?_
      refine r_ga hx hb hts iRX9 hown hK hp 9 (by decide) (by decide) (hts (.fieldLink RX9 39 "RecordBenchModel" "tape" "[I") (by decide +kernel)) dX9_word_45 ?_
      refine lv_iload hx hb dX9_word_48 (lv_at hl 3 rfl) ?_
      obtain ⟨g_2, hf⟩ := gd_some hf
      refine r_ai (n := 400) hx hb hK hp 9 9 rfl rfl rfl g_2 dX9_word_50 ?_
      refine lv_i2l (v := (gF st 9 l4.toNatClampNeg).toInt64) hx hb dX9_word_51 rfl ?_
      refine lv_ladd hx hb dX9_word_52 ?_
      refine lv_ldc2 hx hb hown (hts (.constantLong RX9 170 (97)) (by decide +kernel)) dX9_word_53 ?_
      refine lv_lsub hx hb dX9_word_56 ?_
      refine lv_lconst (v := 1) hx hb dX9_word_57 (by decide) ?_
      refine lv_ladd hx hb dX9_word_58 ?_
      obtain ⟨v_3, ev_3, hf⟩ := nam_some hf
      refine W_tol (y := v_3) ev_3.symm ?_
      refine lv_lstore_n (lv' := [(1, .long v_3), (0, .ref h0), (3, .int l3), (4, .int l4)]) hx hb dX9_word_59 rfl hl (by decide) rfl (fun ls hl => ?_)
      obtain ⟨v_4, ev_4, hf⟩ := nam_some hf
      refine lv_iinc (v := v_4) (lv' := [(4, .int v_4), (1, .long v_3), (0, .ref h0), (3, .int l3)]) hx hb dX9_word_60 hl (k := 3) rfl ev_4.symm (by decide) rfl (fun ls hl => ?_)
      refine lv_goto (tgt := 33) hx hb dX9_word_63 (by decide) ?_
      exact ih33 (v_3, l3, v_4, st) _ _ _ ⟨hf, hp, (lv_sub hl [2, 1, 3, 0] rfl)⟩
  unfold x9_word at hf
  refine lv_aload_n hx hb dX9_word_0 rfl (lv_at hl 0 rfl) ?_
  obtain ⟨r_7, st_5, hc_6, hf⟩ := bnd_some hf
  refine r_ci hp hA (va_runV (As := []) (rest := []) ⟨hx, hb, hml, hown, hts⟩ (c_X9_next l dC dI h0 ar ca  _ _ _ hc_6 _) (cwV 0 hts gq_X9_word_X9_next_150 rfl rfl rfl (by decide +kernel) ⟨Nat.le_of_ble_eq_true rfl, Nat.le_of_ble_eq_true rfl⟩) ⟨Pr.blind _, va_recv hK hp.1 (ci := 11) (q0 := 0) rfl rfl, r_pre hp hK hN hZ hA⟩ rfl rfl hl.1 rfl (lv_room (Nat.le_of_ble_eq_true rfl)) dX9_word_1 ⟨Nat.le_of_ble_eq_true rfl, Nat.le_of_ble_eq_true rfl⟩) (fun H locs hp => ?_)
  refine lv_pop hx hb dX9_word_4 rfl ?_
  refine lv_lconst (v := 0) hx hb dX9_word_5 (by decide) ?_
  refine lv_lstore_n (lv' := [(1, .long 0), (0, .ref h0)]) hx hb dX9_word_6 rfl hl (by decide) rfl (fun ls hl => ?_)
  refine lv_aload_n hx hb dX9_word_7 rfl (lv_at hl 1 rfl) ?_
  obtain ⟨r_10, st_8, hc_9, hf⟩ := bnd_some hf
  refine r_ci hp hA (va_runV (As := []) (rest := []) ⟨hx, hb, hml, hown, hts⟩ (c_X9_wordEnd l dC dI h0 ar ca  _ _ _ hc_9 _) (cwV 0 hts gq_X9_word_X9_wordEnd_172 rfl rfl rfl (by decide +kernel) ⟨Nat.le_of_ble_eq_true rfl, Nat.le_of_ble_eq_true rfl⟩) ⟨Pr.blind _, va_recv hK hp.1 (ci := 11) (q0 := 0) rfl rfl, r_pre hp hK hN hZ hA⟩ rfl rfl hl.1 rfl (lv_room (Nat.le_of_ble_eq_true rfl)) dX9_word_8 ⟨Nat.le_of_ble_eq_true rfl, Nat.le_of_ble_eq_true rfl⟩) (fun H locs hp => ?_)
  refine lv_istore_n (lv' := [(3, .int r_10), (1, .long 0), (0, .ref h0)]) hx hb dX9_word_11 rfl hl (by decide) rfl (fun ls hl => ?_)
  refine lv_iload_n hx hb dX9_word_12 rfl (lv_at hl 0 rfl) ?_
  refine lv_aload_n hx hb dX9_word_13 rfl (lv_at hl 2 rfl) ?_
  refine r_gi hx hb hts iRX9 hown hK hp 11 (by decide) rfl (hts (.fieldLink RX9 141 "RecordBenchModel" "at" "I") (by decide +kernel)) dX9_word_14 ?_
  refine lv_isub hx hb dX9_word_17 ?_
  refine lv_bipush (v := 8) hx hb dX9_word_18 (by decide) ?_
  refine lv_icmp_le (tgt := 27) hx hb dX9_word_20 (by decide) (fun c_11 => ?_) (fun c_11 => ?_)
  · have hf := pif_t c_11 hf
    refine lv_aload_n hx hb dX9_word_27 rfl (lv_at hl 2 rfl) ?_
    refine r_gi hx hb hts iRX9 hown hK hp 11 (by decide) rfl (hts (.fieldLink RX9 141 "RecordBenchModel" "at" "I") (by decide +kernel)) dX9_word_28 ?_
    obtain ⟨v_12, ev_12, hf⟩ := nam_some hf
    refine W_toi (y := v_12) ev_12.symm ?_
    refine lv_istore (lv' := [(4, .int v_12), (3, .int r_10), (1, .long 0), (0, .ref h0)]) hx hb dX9_word_31 hl (by decide) rfl (fun ls hl => ?_)
    exact J33 fuel (0, r_10, v_12, st_8) _ _ _ ⟨hf, hp, (lv_sub hl [3, 2, 1, 0] rfl)⟩
  · have hf := pif_f c_11 hf
    refine lv_ldc2 hx hb hown (hts (.constantLong RX9 175 (-1)) (by decide +kernel)) dX9_word_23 ?_
    obtain ⟨e1, e2⟩ := pr_some hf
    exact W.lret (v := (-1)) hx hb hr (fun t ht hW => ⟨⟨(-1), (), rfl, e1, Rp.end e2 hp hK ht hW⟩, hp.2.2.F ht⟩) hp.2.2.2.2 dX9_word_26
noncomputable def x9_takes_20  (st : RS) : Option (RS) := bnd (x9_wordEnd st) (fun r_3 st_1 => nam (sI st_1 11 r_3) (fun st_4 => nam (sI st_4 18 (gI st_4 11)) (fun st_5 => some st_5)))
noncomputable def x9_takes  (st : RS) : Option (RS) := pif ((gI st 11) = (gI st 18)) (bnv (x9_fail 1 (gI st 11) st) (fun st_7 => x9_takes_20  st_7)) (x9_takes_20  st)
def wq_X9_takes : List Cond := .code yX9_takes cX9_takes 1 none :: (([.fieldLink RX9 141 "RecordBenchModel" "at" "I", .fieldLink RX9 162 "RecordBenchModel" "ended" "I", .methodLink RX9 172 yX9_wordEnd, .instanceMethod yX9_wordEnd, .selects RX9 yX9_wordEnd yX9_wordEnd, .initialized RX9, .methodLink RX9 154 yX9_fail, .instanceMethod yX9_fail, .selects RX9 yX9_fail yX9_fail, .code yX9_wordEnd cX9_wordEnd 2 (some .int), .fieldLink RX9 144 "RecordBenchModel" "size" "I", .fieldLink RX9 39 "RecordBenchModel" "tape" "[I", .methodLink RX9 165 yX9_isLetter, .static yX9_isLetter, .code yX9_isLetter cX9_isLetter 1 (some .boolean), .code yX9_fail cX9_fail 3 none, .fieldLink RX9 135 "RecordBenchModel" "bad" "I", .fieldLink RX9 138 "RecordBenchModel" "badPlace" "I"] : List Cond) ++ wsX90)
theorem gs_wq_X9_takes_wsX90 : GoodIn wq_X9_takes wsX90 := fun w h => ⟨List.mem_cons_of_mem _ (List.mem_append_right _ h), (gt_wsX90 w h).2⟩
set_option maxRecDepth 20000 in
theorem gq_X9_takes_X9_wordEnd_172 : GoodIn wq_X9_takes (wsV RX9 172 RX9 yX9_wordEnd wq_X9_wordEnd) := goodIn_app (goodIn_r _ [3, 4, 5, 6] rfl rfl) (goodIn_ca (goodIn_r _ [10, 1, 11, 12, 13, 14, 6, 15] rfl rfl) gs_wq_X9_takes_wsX90)
set_option maxRecDepth 20000 in
theorem gq_X9_takes_X9_fail_154 : GoodIn wq_X9_takes (wsV RX9 154 RX9 yX9_fail wq_X9_fail) := goodIn_app (goodIn_r _ [7, 8, 9, 6] rfl rfl) (goodIn_ca (goodIn_r _ [16, 17, 18] rfl rfl) gs_wq_X9_takes_wsX90)
set_option maxHeartbeats 4000000 in
set_option maxRecDepth 100000 in
theorem c_X9_takes (l : Launch) (dC : Nat → ClassId) (dI : Nat → Nat → Nat) (h0 : Nat) (ar : Nat → Nat) (ca : Nat → ClassId)  (st st' : RS) (hf : x9_takes  st = some st') (sz : Nat) : Met l yX9_takes wq_X9_takes ({ frames := 2, cells := 0, slots := 0, locals := 49 }) (va_Pc [.ref h0] (Pr (dC, dI) (rT ca) [] (RW h0 ar ca st) sz)) (va_Qv (fun (_ : Unit) => True) (Bq (dC, dI) (fun _ => RW h0 ar ca st') (fun _ => []) (va_A (RW h0 ar ca st) sz)) (va_A (RW h0 ar ca st) sz)) 0 0 (va_A (RW h0 ar ca st) sz) := by
  refine Met.ofW (cc := cX9_takes) (maxL := 1) (ret := none) (by decide) rfl ?_
  intro p e s m args below meth c s₁ B hml hv
  obtain ⟨rfl, hsz, hP, hK, hD0, hN, hZ, hR⟩ := hv
  have hx := B.exec
  have hb := B.bytes
  have hr := B.returns
  have hts := atoms_spec (ws := wq_X9_takes) B.pre
  have hown : s.vm.findClass RX9 = some m.cls := findClass_of_methodNamed B.named
  have iRX9 : ∀ w ∈ u_ws RX9 TX9 60, w ∈ wq_X9_takes := fun w h => List.mem_cons_of_mem _ (List.mem_append_right _ h)
  subst hsz
  have hp : Rp (dC, dI) h0 ar ca (va_A (RW h0 ar ca st) s.heap.size) s.heap st s.heap [] := ⟨hP, hD0.self, va_S.rf⟩
  generalize hAe : va_A (RW h0 ar ca st) s.heap.size = A at hp hZ ⊢
  have hA : ∀ q : Nat, s.heap.size ≤ q → A q := fun q h => by rw [← hAe]; exact Or.inr h
  have hl := lv_entry ([.ref h0]) (n := 1) (Nat.le_of_ble_eq_true rfl)
  rw [lg_entry_eq]
  generalize (lg_sl ([.ref h0]) ++ List.replicate (1 - (lg_sl ([.ref h0])).length) Slot.unset).toArray = ls at hl ⊢
  have hl : lv_has ls 1 [(0, .ref h0)] := hl
  refine W_blk (fun (st : RS) H locs ls => x9_takes_20 st = some st' ∧ Rp (dC, dI) h0 ar ca A s.heap st H locs ∧ lv_has ls 1 [(0, .ref h0)]) (fun (st : RS) ls => F0 m 20 ls []) ?_ (fun J20 => ?_)
  · intro u H locs ls hu
    obtain ⟨st, rfl⟩ : ∃ z, z = u := ⟨_, rfl⟩
    obtain ⟨hf, hp, hl⟩ := hu
    show W p l e _ s m _ below meth c _ _ _ _ _ (F0 m 20 ls [])
    unfold x9_takes_20 at hf
    refine lv_aload_n hx hb dX9_takes_20 rfl (lv_at hl 0 rfl) ?_
    refine lv_aload_n hx hb dX9_takes_21 rfl (lv_at hl 0 rfl) ?_
    obtain ⟨r_3, st_1, hc_2, hf⟩ := bnd_some hf
    refine r_ci hp hA (va_runV (As := []) (rest := [.ref h0]) ⟨hx, hb, hml, hown, hts⟩ (c_X9_wordEnd l dC dI h0 ar ca  _ _ _ hc_2 _) (cwV 0 hts gq_X9_takes_X9_wordEnd_172 rfl rfl rfl (by decide +kernel) ⟨Nat.le_of_ble_eq_true rfl, Nat.le_of_ble_eq_true rfl⟩) ⟨Pr.blind _, va_recv hK hp.1 (ci := 11) (q0 := 0) rfl rfl, r_pre hp hK hN hZ hA⟩ rfl rfl hl.1 rfl (lv_room (Nat.le_of_ble_eq_true rfl)) dX9_takes_22 ⟨Nat.le_of_ble_eq_true rfl, Nat.le_of_ble_eq_true rfl⟩) (fun H locs hp => ?_)
    refine r_pi (v := r_3) (ty := .int) hx hb hts iRX9 hown hK hp 11 (by decide) rfl (hts (.fieldLink RX9 141 "RecordBenchModel" "at" "I") (by decide +kernel)) rfl (by decide +kernel) rfl rfl dX9_takes_25 (fun H locs hp => ?_)
    obtain ⟨st_4, est_4, hf⟩ := nam_some hf
    rw [← est_4] at hp
    refine lv_aload_n hx hb dX9_takes_28 rfl (lv_at hl 0 rfl) ?_
    refine lv_aload_n hx hb dX9_takes_29 rfl (lv_at hl 0 rfl) ?_
    refine r_gi hx hb hts iRX9 hown hK hp 11 (by decide) rfl (hts (.fieldLink RX9 141 "RecordBenchModel" "at" "I") (by decide +kernel)) dX9_takes_30 ?_
    refine r_pi (v := gI st_4 11) (ty := .int) hx hb hts iRX9 hown hK hp 18 (by decide) rfl (hts (.fieldLink RX9 162 "RecordBenchModel" "ended" "I") (by decide +kernel)) rfl (by decide +kernel) rfl rfl dX9_takes_33 (fun H locs hp => ?_)
    obtain ⟨st_5, est_5, hf⟩ := nam_some hf
    rw [← est_5] at hp
    have e2 := Option.some.inj hf
    exact W.vret hx hb hr (fun t ht hW => ⟨⟨(), rfl, trivial, Rp.end e2 hp hK ht hW⟩, hp.2.2.F ht⟩) hp.2.2.2.2 dX9_takes_36
  unfold x9_takes at hf
  refine lv_aload_n hx hb dX9_takes_0 rfl (lv_at hl 0 rfl) ?_
  refine r_gi hx hb hts iRX9 hown hK hp 11 (by decide) rfl (hts (.fieldLink RX9 141 "RecordBenchModel" "at" "I") (by decide +kernel)) dX9_takes_1 ?_
  refine lv_aload_n hx hb dX9_takes_4 rfl (lv_at hl 0 rfl) ?_
  refine r_gi hx hb hts iRX9 hown hK hp 18 (by decide) rfl (hts (.fieldLink RX9 162 "RecordBenchModel" "ended" "I") (by decide +kernel)) dX9_takes_5 ?_
  refine lv_icmp_ne (tgt := 20) hx hb dX9_takes_8 (by decide) (fun c_6 => ?_) (fun c_6 => ?_)
  · have hf := pif_f c_6 hf
    exact J20 st _ _ _ ⟨hf, hp, (lv_sub hl [0] rfl)⟩
  · have hf := pif_t c_6 hf
    refine lv_aload_n hx hb dX9_takes_11 rfl (lv_at hl 0 rfl) ?_
    refine lv_iconst (v := 1) hx hb dX9_takes_12 (by decide) ?_
    refine lv_aload_n hx hb dX9_takes_13 rfl (lv_at hl 0 rfl) ?_
    refine r_gi hx hb hts iRX9 hown hK hp 11 (by decide) rfl (hts (.fieldLink RX9 141 "RecordBenchModel" "at" "I") (by decide +kernel)) dX9_takes_14 ?_
    obtain ⟨st_7, hc_8, hf⟩ := bnv_some hf
    refine r_cv hp hA (va_runV (As := [.int 1, .int (gI st 11)]) (rest := []) ⟨hx, hb, hml, hown, hts⟩ (c_X9_fail l dC dI h0 ar ca 1 (gI st 11) _ _ hc_8 _) (cwV 2 hts gq_X9_takes_X9_fail_154 rfl rfl rfl (by decide +kernel) ⟨Nat.le_of_ble_eq_true rfl, Nat.le_of_ble_eq_true rfl⟩) ⟨Pr.blind _, va_recv hK hp.1 (ci := 11) (q0 := 0) rfl rfl, r_pre hp hK hN hZ hA⟩ rfl rfl hl.1 rfl (lv_room (Nat.le_of_ble_eq_true rfl)) dX9_takes_17 ⟨Nat.le_of_ble_eq_true rfl, Nat.le_of_ble_eq_true rfl⟩) (fun H locs hp => ?_)
    exact J20 st_7 _ _ _ ⟨hf, hp, (lv_sub hl [0] rfl)⟩
noncomputable def x9_kindOf (p0 : Int64) (st : RS) : Option (Int32 × RS) := pif ((lg_cmp p0 (gJ st 20)) = 0) (some ((1 : Int32), st)) (pif ((lg_cmp p0 (gJ st 21)) = 0) (some ((2 : Int32), st)) (pif ((lg_cmp p0 (gJ st 22)) = 0) (some ((3 : Int32), st)) (pif ((lg_cmp p0 (gJ st 23)) = 0) (some ((4 : Int32), st)) (pif ((lg_cmp p0 (gJ st 24)) = 0) (some ((5 : Int32), st)) (pif ((lg_cmp p0 (gJ st 25)) = 0) (some ((6 : Int32), st)) (some (((-1) : Int32), st)))))))
def wq_X9_kindOf : List Cond := .code yX9_kindOf cX9_kindOf 3 (some .int) :: (([.fieldLink RX9 54 "RecordBenchModel" "flagWord" "J", .fieldLink RX9 57 "RecordBenchModel" "smallWord" "J", .fieldLink RX9 60 "RecordBenchModel" "intWord" "J", .fieldLink RX9 63 "RecordBenchModel" "longWord" "J", .fieldLink RX9 66 "RecordBenchModel" "textWord" "J", .fieldLink RX9 69 "RecordBenchModel" "recWord" "J"] : List Cond) ++ wsX90)
set_option maxHeartbeats 4000000 in
set_option maxRecDepth 100000 in
theorem c_X9_kindOf (l : Launch) (dC : Nat → ClassId) (dI : Nat → Nat → Nat) (h0 : Nat) (ar : Nat → Nat) (ca : Nat → ClassId) (p0 : Int64) (st st' : RS) (r : Int32) (hf : x9_kindOf p0 st = some (r, st')) (sz : Nat) : Met l yX9_kindOf wq_X9_kindOf ({ frames := 0, cells := 0, slots := 0, locals := 0 }) (va_Pc [.ref h0, .long p0] (Pr (dC, dI) (rT ca) [] (RW h0 ar ca st) sz)) (va_Qi (fun r' (_ : Unit) => r' = r) (Bq (dC, dI) (fun _ => RW h0 ar ca st') (fun _ => []) (va_A (RW h0 ar ca st) sz)) (va_A (RW h0 ar ca st) sz)) 0 0 (va_A (RW h0 ar ca st) sz) := by
  refine Met.ofW (cc := cX9_kindOf) (maxL := 3) (ret := (some .int)) (by decide) rfl ?_
  intro p e s m args below meth c s₁ B hml hv
  obtain ⟨rfl, hsz, hP, hK, hD0, hN, hZ, hR⟩ := hv
  have hx := B.exec
  have hb := B.bytes
  have hr := B.returns
  have hts := atoms_spec (ws := wq_X9_kindOf) B.pre
  have hown : s.vm.findClass RX9 = some m.cls := findClass_of_methodNamed B.named
  have iRX9 : ∀ w ∈ u_ws RX9 TX9 60, w ∈ wq_X9_kindOf := fun w h => List.mem_cons_of_mem _ (List.mem_append_right _ h)
  subst hsz
  have hp : Rp (dC, dI) h0 ar ca (va_A (RW h0 ar ca st) s.heap.size) s.heap st s.heap [] := ⟨hP, hD0.self, va_S.rf⟩
  generalize hAe : va_A (RW h0 ar ca st) s.heap.size = A at hp hZ ⊢
  have hA : ∀ q : Nat, s.heap.size ≤ q → A q := fun q h => by rw [← hAe]; exact Or.inr h
  have hl := lv_entry ([.ref h0, .long p0]) (n := 3) (Nat.le_of_ble_eq_true rfl)
  rw [lg_entry_eq]
  generalize (lg_sl ([.ref h0, .long p0]) ++ List.replicate (3 - (lg_sl ([.ref h0, .long p0])).length) Slot.unset).toArray = ls at hl ⊢
  have hl : lv_has ls 3 [(0, .ref h0), (1, .long p0)] := hl
  unfold x9_kindOf at hf
  refine lv_lload_n hx hb dX9_kindOf_0 rfl (lv_at hl 1 rfl) ?_
  refine lv_aload_n hx hb dX9_kindOf_1 rfl (lv_at hl 0 rfl) ?_
  refine r_gj hx hb hts iRX9 hown hK hp 20 (by decide) rfl (hts (.fieldLink RX9 54 "RecordBenchModel" "flagWord" "J") (by decide +kernel)) dX9_kindOf_2 ?_
  refine W.lcmp hx hb dX9_kindOf_5 ?_
  refine lv_if_ne (tgt := 13) hx hb dX9_kindOf_6 (by decide) (fun c_1 => ?_) (fun c_1 => ?_)
  · have hf := pif_f c_1 hf
    refine lv_lload_n hx hb dX9_kindOf_13 rfl (lv_at hl 1 rfl) ?_
    refine lv_aload_n hx hb dX9_kindOf_14 rfl (lv_at hl 0 rfl) ?_
    refine r_gj hx hb hts iRX9 hown hK hp 21 (by decide) rfl (hts (.fieldLink RX9 57 "RecordBenchModel" "smallWord" "J") (by decide +kernel)) dX9_kindOf_15 ?_
    refine W.lcmp hx hb dX9_kindOf_18 ?_
    refine lv_if_ne (tgt := 26) hx hb dX9_kindOf_19 (by decide) (fun c_2 => ?_) (fun c_2 => ?_)
    · have hf := pif_f c_2 hf
      refine lv_lload_n hx hb dX9_kindOf_26 rfl (lv_at hl 1 rfl) ?_
      refine lv_aload_n hx hb dX9_kindOf_27 rfl (lv_at hl 0 rfl) ?_
      refine r_gj hx hb hts iRX9 hown hK hp 22 (by decide) rfl (hts (.fieldLink RX9 60 "RecordBenchModel" "intWord" "J") (by decide +kernel)) dX9_kindOf_28 ?_
      refine W.lcmp hx hb dX9_kindOf_31 ?_
      refine lv_if_ne (tgt := 39) hx hb dX9_kindOf_32 (by decide) (fun c_3 => ?_) (fun c_3 => ?_)
      · have hf := pif_f c_3 hf
        refine lv_lload_n hx hb dX9_kindOf_39 rfl (lv_at hl 1 rfl) ?_
        refine lv_aload_n hx hb dX9_kindOf_40 rfl (lv_at hl 0 rfl) ?_
        refine r_gj hx hb hts iRX9 hown hK hp 23 (by decide) rfl (hts (.fieldLink RX9 63 "RecordBenchModel" "longWord" "J") (by decide +kernel)) dX9_kindOf_41 ?_
        refine W.lcmp hx hb dX9_kindOf_44 ?_
        refine lv_if_ne (tgt := 52) hx hb dX9_kindOf_45 (by decide) (fun c_4 => ?_) (fun c_4 => ?_)
        · have hf := pif_f c_4 hf
          refine lv_lload_n hx hb dX9_kindOf_52 rfl (lv_at hl 1 rfl) ?_
          refine lv_aload_n hx hb dX9_kindOf_53 rfl (lv_at hl 0 rfl) ?_
          refine r_gj hx hb hts iRX9 hown hK hp 24 (by decide) rfl (hts (.fieldLink RX9 66 "RecordBenchModel" "textWord" "J") (by decide +kernel)) dX9_kindOf_54 ?_
          refine W.lcmp hx hb dX9_kindOf_57 ?_
          refine lv_if_ne (tgt := 65) hx hb dX9_kindOf_58 (by decide) (fun c_5 => ?_) (fun c_5 => ?_)
          · have hf := pif_f c_5 hf
            refine lv_lload_n hx hb dX9_kindOf_65 rfl (lv_at hl 1 rfl) ?_
            refine lv_aload_n hx hb dX9_kindOf_66 rfl (lv_at hl 0 rfl) ?_
            refine r_gj hx hb hts iRX9 hown hK hp 25 (by decide) rfl (hts (.fieldLink RX9 69 "RecordBenchModel" "recWord" "J") (by decide +kernel)) dX9_kindOf_67 ?_
            refine W.lcmp hx hb dX9_kindOf_70 ?_
            refine lv_if_ne (tgt := 79) hx hb dX9_kindOf_71 (by decide) (fun c_6 => ?_) (fun c_6 => ?_)
            · have hf := pif_f c_6 hf
              refine lv_iconst (v := (-1)) hx hb dX9_kindOf_79 (by decide) ?_
              obtain ⟨e1, e2⟩ := pr_some hf
              exact W.iret (v := (-1)) hx hb hr (fun t ht hW => ⟨⟨(-1), (), rfl, e1, Rp.end e2 hp hK ht hW⟩, hp.2.2.F ht⟩) hp.2.2.2.2 dX9_kindOf_80
            · have hf := pif_t c_6 hf
              refine lv_bipush (v := 6) hx hb dX9_kindOf_74 (by decide) ?_
              refine lv_goto (tgt := 80) hx hb dX9_kindOf_76 (by decide) ?_
              obtain ⟨e1, e2⟩ := pr_some hf
              exact W.iret (v := 6) hx hb hr (fun t ht hW => ⟨⟨6, (), rfl, e1, Rp.end e2 hp hK ht hW⟩, hp.2.2.F ht⟩) hp.2.2.2.2 dX9_kindOf_80
          · have hf := pif_t c_5 hf
            refine lv_iconst (v := 5) hx hb dX9_kindOf_61 (by decide) ?_
            refine lv_goto (tgt := 80) hx hb dX9_kindOf_62 (by decide) ?_
            obtain ⟨e1, e2⟩ := pr_some hf
            exact W.iret (v := 5) hx hb hr (fun t ht hW => ⟨⟨5, (), rfl, e1, Rp.end e2 hp hK ht hW⟩, hp.2.2.F ht⟩) hp.2.2.2.2 dX9_kindOf_80
        · have hf := pif_t c_4 hf
          refine lv_iconst (v := 4) hx hb dX9_kindOf_48 (by decide) ?_
          refine lv_goto (tgt := 80) hx hb dX9_kindOf_49 (by decide) ?_
          obtain ⟨e1, e2⟩ := pr_some hf
          exact W.iret (v := 4) hx hb hr (fun t ht hW => ⟨⟨4, (), rfl, e1, Rp.end e2 hp hK ht hW⟩, hp.2.2.F ht⟩) hp.2.2.2.2 dX9_kindOf_80
      · have hf := pif_t c_3 hf
        refine lv_iconst (v := 3) hx hb dX9_kindOf_35 (by decide) ?_
        refine lv_goto (tgt := 80) hx hb dX9_kindOf_36 (by decide) ?_
        obtain ⟨e1, e2⟩ := pr_some hf
        exact W.iret (v := 3) hx hb hr (fun t ht hW => ⟨⟨3, (), rfl, e1, Rp.end e2 hp hK ht hW⟩, hp.2.2.F ht⟩) hp.2.2.2.2 dX9_kindOf_80
    · have hf := pif_t c_2 hf
      refine lv_iconst (v := 2) hx hb dX9_kindOf_22 (by decide) ?_
      refine lv_goto (tgt := 80) hx hb dX9_kindOf_23 (by decide) ?_
      obtain ⟨e1, e2⟩ := pr_some hf
      exact W.iret (v := 2) hx hb hr (fun t ht hW => ⟨⟨2, (), rfl, e1, Rp.end e2 hp hK ht hW⟩, hp.2.2.F ht⟩) hp.2.2.2.2 dX9_kindOf_80
  · have hf := pif_t c_1 hf
    refine lv_iconst (v := 1) hx hb dX9_kindOf_9 (by decide) ?_
    refine lv_goto (tgt := 80) hx hb dX9_kindOf_10 (by decide) ?_
    obtain ⟨e1, e2⟩ := pr_some hf
    exact W.iret (v := 1) hx hb hr (fun t ht hW => ⟨⟨1, (), rfl, e1, Rp.end e2 hp hK ht hW⟩, hp.2.2.F ht⟩) hp.2.2.2.2 dX9_kindOf_80
