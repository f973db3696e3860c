theorem dJ4_init_da8c8_0 : decode cJ4_init_da8c8 0 = .ok (.aload_n 0, 1) := by decide +kernel
theorem dJ4_init_da8c8_1 : decode cJ4_init_da8c8 1 = .ok (.bipush 16, 2) := by decide +kernel
theorem dJ4_init_da8c8_3 : decode cJ4_init_da8c8 3 = .ok (.invokespecial 1, 3) := by decide +kernel
theorem dJ4_init_da8c8_6 : decode cJ4_init_da8c8 6 = .ok (.return_, 1) := by decide +kernel
theorem dJ5_init_d00df_0 : decode cJ5_init_d00df 0 = .ok (.aload_n 0, 1) := by decide +kernel
theorem dJ5_init_d00df_1 : decode cJ5_init_d00df 1 = .ok (.invokespecial 3, 3) := by decide +kernel
theorem dJ5_init_d00df_10 : decode cJ5_init_d00df 10 = .ok (.aload_n 0, 1) := by decide +kernel
theorem dJ5_init_d00df_11 : decode cJ5_init_d00df 11 = .ok (.iload_n 1, 1) := by decide +kernel
theorem dJ5_init_d00df_12 : decode cJ5_init_d00df 12 = .ok (.newarray .byte, 2) := by decide +kernel
theorem dJ5_init_d00df_14 : decode cJ5_init_d00df 14 = .ok (.putfield 15, 3) := by decide +kernel
theorem dJ5_init_d00df_17 : decode cJ5_init_d00df 17 = .ok (.aload_n 0, 1) := by decide +kernel
theorem dJ5_init_d00df_18 : decode cJ5_init_d00df 18 = .ok (.iconst 0, 1) := by decide +kernel
theorem dJ5_init_d00df_19 : decode cJ5_init_d00df 19 = .ok (.putfield 22, 3) := by decide +kernel
theorem dJ5_init_d00df_22 : decode cJ5_init_d00df 22 = .ok (.goto 16, 3) := by decide +kernel
theorem dJ5_init_d00df_38 : decode cJ5_init_d00df 38 = .ok (.return_, 1) := by decide +kernel
theorem dJ5_init_d00df_4 : decode cJ5_init_d00df 4 = .ok (.getstatic 18, 3) := by decide +kernel
theorem dJ5_init_d00df_7 : decode cJ5_init_d00df 7 = .ok (.ifCond .eq 18, 3) := by decide +kernel
theorem dX2_init_0 : decode cX2_init 0 = .ok (.aload_n 0, 1) := by decide +kernel
theorem dX2_init_1 : decode cX2_init 1 = .ok (.invokespecial 3, 3) := by decide +kernel
theorem dX2_init_10 : decode cX2_init 10 = .ok (.iconst 0, 1) := by decide +kernel
theorem dX2_init_11 : decode cX2_init 11 = .ok (.putfield 15, 3) := by decide +kernel
theorem dX2_init_14 : decode cX2_init 14 = .ok (.aload_n 0, 1) := by decide +kernel
theorem dX2_init_15 : decode cX2_init 15 = .ok (.lconst 0, 1) := by decide +kernel
theorem dX2_init_16 : decode cX2_init 16 = .ok (.putfield 19, 3) := by decide +kernel
theorem dX2_init_19 : decode cX2_init 19 = .ok (.aload_n 0, 1) := by decide +kernel
theorem dX2_init_20 : decode cX2_init 20 = .ok (.iconst 0, 1) := by decide +kernel
theorem dX2_init_21 : decode cX2_init 21 = .ok (.putfield 23, 3) := by decide +kernel
theorem dX2_init_24 : decode cX2_init 24 = .ok (.aload_n 0, 1) := by decide +kernel
theorem dX2_init_25 : decode cX2_init 25 = .ok (.iconst 0, 1) := by decide +kernel
theorem dX2_init_26 : decode cX2_init 26 = .ok (.putfield 26, 3) := by decide +kernel
theorem dX2_init_29 : decode cX2_init 29 = .ok (.aload_n 0, 1) := by decide +kernel
theorem dX2_init_30 : decode cX2_init 30 = .ok (.iconst 0, 1) := by decide +kernel
theorem dX2_init_31 : decode cX2_init 31 = .ok (.putfield 29, 3) := by decide +kernel
theorem dX2_init_34 : decode cX2_init 34 = .ok (.aload_n 0, 1) := by decide +kernel
theorem dX2_init_35 : decode cX2_init 35 = .ok (.iconst 0, 1) := by decide +kernel
theorem dX2_init_36 : decode cX2_init 36 = .ok (.putfield 32, 3) := by decide +kernel
theorem dX2_init_39 : decode cX2_init 39 = .ok (.aload_n 0, 1) := by decide +kernel
theorem dX2_init_4 : decode cX2_init 4 = .ok (.aload_n 0, 1) := by decide +kernel
theorem dX2_init_40 : decode cX2_init 40 = .ok (.iconst 0, 1) := by decide +kernel
theorem dX2_init_41 : decode cX2_init 41 = .ok (.putfield 35, 3) := by decide +kernel
theorem dX2_init_44 : decode cX2_init 44 = .ok (.return_, 1) := by decide +kernel
theorem dX2_init_5 : decode cX2_init 5 = .ok (.iconst 0, 1) := by decide +kernel
theorem dX2_init_6 : decode cX2_init 6 = .ok (.putfield 9, 3) := by decide +kernel
theorem dX2_init_9 : decode cX2_init 9 = .ok (.aload_n 0, 1) := by decide +kernel
theorem dX3_init_0 : decode cX3_init 0 = .ok (.aload_n 0, 1) := by decide +kernel
theorem dX3_init_1 : decode cX3_init 1 = .ok (.invokespecial 3, 3) := by decide +kernel
theorem dX3_init_10 : decode cX3_init 10 = .ok (.bipush 8, 2) := by decide +kernel
theorem dX3_init_12 : decode cX3_init 12 = .ok (.anewarray 15, 3) := by decide +kernel
theorem dX3_init_15 : decode cX3_init 15 = .ok (.putfield 17, 3) := by decide +kernel
theorem dX3_init_18 : decode cX3_init 18 = .ok (.iconst 0, 1) := by decide +kernel
theorem dX3_init_19 : decode cX3_init 19 = .ok (.istore_n 2, 1) := by decide +kernel
theorem dX3_init_20 : decode cX3_init 20 = .ok (.iload_n 2, 1) := by decide +kernel
theorem dX3_init_21 : decode cX3_init 21 = .ok (.bipush 8, 2) := by decide +kernel
theorem dX3_init_23 : decode cX3_init 23 = .ok (.if_icmp .ge 22, 3) := by decide +kernel
theorem dX3_init_26 : decode cX3_init 26 = .ok (.aload_n 0, 1) := by decide +kernel
theorem dX3_init_27 : decode cX3_init 27 = .ok (.getfield 17, 3) := by decide +kernel
theorem dX3_init_30 : decode cX3_init 30 = .ok (.iload_n 2, 1) := by decide +kernel
theorem dX3_init_31 : decode cX3_init 31 = .ok (.new 15, 3) := by decide +kernel
theorem dX3_init_34 : decode cX3_init 34 = .ok (.dup, 1) := by decide +kernel
theorem dX3_init_35 : decode cX3_init 35 = .ok (.invokespecial 21, 3) := by decide +kernel
theorem dX3_init_38 : decode cX3_init 38 = .ok (.aastore, 1) := by decide +kernel
theorem dX3_init_39 : decode cX3_init 39 = .ok (.iinc 2 1, 3) := by decide +kernel
theorem dX3_init_4 : decode cX3_init 4 = .ok (.aload_n 0, 1) := by decide +kernel
theorem dX3_init_42 : decode cX3_init 42 = .ok (.goto (-22), 3) := by decide +kernel
theorem dX3_init_45 : decode cX3_init 45 = .ok (.aload_n 0, 1) := by decide +kernel
theorem dX3_init_46 : decode cX3_init 46 = .ok (.iconst 0, 1) := by decide +kernel
theorem dX3_init_47 : decode cX3_init 47 = .ok (.putfield 22, 3) := by decide +kernel
theorem dX3_init_5 : decode cX3_init 5 = .ok (.aload_n 1, 1) := by decide +kernel
theorem dX3_init_50 : decode cX3_init 50 = .ok (.aload_n 0, 1) := by decide +kernel
theorem dX3_init_51 : decode cX3_init 51 = .ok (.iconst (-1), 1) := by decide +kernel
theorem dX3_init_52 : decode cX3_init 52 = .ok (.putfield 26, 3) := by decide +kernel
theorem dX3_init_55 : decode cX3_init 55 = .ok (.return_, 1) := by decide +kernel
theorem dX3_init_6 : decode cX3_init 6 = .ok (.putfield 9, 3) := by decide +kernel
theorem dX3_init_9 : decode cX3_init 9 = .ok (.aload_n 0, 1) := by decide +kernel
theorem dX4_init_0 : decode cX4_init 0 = .ok (.aload_n 0, 1) := by decide +kernel
theorem dX4_init_1 : decode cX4_init 1 = .ok (.invokespecial 3, 3) := by decide +kernel
theorem dX4_init_10 : decode cX4_init 10 = .ok (.bipush 8, 2) := by decide +kernel
theorem dX4_init_12 : decode cX4_init 12 = .ok (.anewarray 15, 3) := by decide +kernel
theorem dX4_init_15 : decode cX4_init 15 = .ok (.putfield 17, 3) := by decide +kernel
theorem dX4_init_18 : decode cX4_init 18 = .ok (.iconst 0, 1) := by decide +kernel
theorem dX4_init_19 : decode cX4_init 19 = .ok (.istore_n 2, 1) := by decide +kernel
theorem dX4_init_20 : decode cX4_init 20 = .ok (.iload_n 2, 1) := by decide +kernel
theorem dX4_init_21 : decode cX4_init 21 = .ok (.bipush 8, 2) := by decide +kernel
theorem dX4_init_23 : decode cX4_init 23 = .ok (.if_icmp .ge 22, 3) := by decide +kernel
theorem dX4_init_26 : decode cX4_init 26 = .ok (.aload_n 0, 1) := by decide +kernel
theorem dX4_init_27 : decode cX4_init 27 = .ok (.getfield 17, 3) := by decide +kernel
theorem dX4_init_30 : decode cX4_init 30 = .ok (.iload_n 2, 1) := by decide +kernel
theorem dX4_init_31 : decode cX4_init 31 = .ok (.new 15, 3) := by decide +kernel
theorem dX4_init_34 : decode cX4_init 34 = .ok (.dup, 1) := by decide +kernel
theorem dX4_init_35 : decode cX4_init 35 = .ok (.invokespecial 21, 3) := by decide +kernel
theorem dX4_init_38 : decode cX4_init 38 = .ok (.aastore, 1) := by decide +kernel
theorem dX4_init_39 : decode cX4_init 39 = .ok (.iinc 2 1, 3) := by decide +kernel
theorem dX4_init_4 : decode cX4_init 4 = .ok (.aload_n 0, 1) := by decide +kernel
theorem dX4_init_42 : decode cX4_init 42 = .ok (.goto (-22), 3) := by decide +kernel
theorem dX4_init_45 : decode cX4_init 45 = .ok (.aload_n 0, 1) := by decide +kernel
theorem dX4_init_46 : decode cX4_init 46 = .ok (.new 22, 3) := by decide +kernel
theorem dX4_init_49 : decode cX4_init 49 = .ok (.dup, 1) := by decide +kernel
theorem dX4_init_5 : decode cX4_init 5 = .ok (.aload_n 1, 1) := by decide +kernel
theorem dX4_init_50 : decode cX4_init 50 = .ok (.iconst 0, 1) := by decide +kernel
theorem dX4_init_51 : decode cX4_init 51 = .ok (.invokespecial 24, 3) := by decide +kernel
theorem dX4_init_54 : decode cX4_init 54 = .ok (.putfield 27, 3) := by decide +kernel
theorem dX4_init_57 : decode cX4_init 57 = .ok (.return_, 1) := by decide +kernel
theorem dX4_init_6 : decode cX4_init 6 = .ok (.putfield 9, 3) := by decide +kernel
theorem dX4_init_9 : decode cX4_init 9 = .ok (.aload_n 0, 1) := by decide +kernel
theorem dX5_init_0 : decode cX5_init 0 = .ok (.aload_n 0, 1) := by decide +kernel
theorem dX5_init_1 : decode cX5_init 1 = .ok (.invokespecial 3, 3) := by decide +kernel
theorem dX5_init_10 : decode cX5_init 10 = .ok (.newarray .int, 2) := by decide +kernel
theorem dX5_init_12 : decode cX5_init 12 = .ok (.putfield 15, 3) := by decide +kernel
theorem dX5_init_15 : decode cX5_init 15 = .ok (.aload_n 0, 1) := by decide +kernel
theorem dX5_init_16 : decode cX5_init 16 = .ok (.iconst 0, 1) := by decide +kernel
theorem dX5_init_17 : decode cX5_init 17 = .ok (.putfield 21, 3) := by decide +kernel
theorem dX5_init_20 : decode cX5_init 20 = .ok (.return_, 1) := by decide +kernel
theorem dX5_init_4 : decode cX5_init 4 = .ok (.aload_n 0, 1) := by decide +kernel
theorem dX5_init_5 : decode cX5_init 5 = .ok (.iload_n 1, 1) := by decide +kernel
theorem dX5_init_6 : decode cX5_init 6 = .ok (.iconst 0, 1) := by decide +kernel
theorem dX5_init_7 : decode cX5_init 7 = .ok (.invokestatic 9, 3) := by decide +kernel
theorem dX6_init_0 : decode cX6_init 0 = .ok (.aload_n 0, 1) := by decide +kernel
theorem dX6_init_1 : decode cX6_init 1 = .ok (.invokespecial 3, 3) := by decide +kernel
theorem dX6_init_10 : decode cX6_init 10 = .ok (.aload_n 2, 1) := by decide +kernel
theorem dX6_init_11 : decode cX6_init 11 = .ok (.putfield 15, 3) := by decide +kernel
theorem dX6_init_14 : decode cX6_init 14 = .ok (.aload_n 0, 1) := by decide +kernel
theorem dX6_init_15 : decode cX6_init 15 = .ok (.new 19, 3) := by decide +kernel
theorem dX6_init_18 : decode cX6_init 18 = .ok (.dup, 1) := by decide +kernel
theorem dX6_init_19 : decode cX6_init 19 = .ok (.invokespecial 21, 3) := by decide +kernel
theorem dX6_init_22 : decode cX6_init 22 = .ok (.putfield 22, 3) := by decide +kernel
theorem dX6_init_25 : decode cX6_init 25 = .ok (.aload_n 0, 1) := by decide +kernel
theorem dX6_init_26 : decode cX6_init 26 = .ok (.iconst 0, 1) := by decide +kernel
theorem dX6_init_27 : decode cX6_init 27 = .ok (.putfield 26, 3) := by decide +kernel
theorem dX6_init_30 : decode cX6_init 30 = .ok (.aload_n 0, 1) := by decide +kernel
theorem dX6_init_31 : decode cX6_init 31 = .ok (.iconst 0, 1) := by decide +kernel
theorem dX6_init_32 : decode cX6_init 32 = .ok (.putfield 30, 3) := by decide +kernel
theorem dX6_init_35 : decode cX6_init 35 = .ok (.aload_n 0, 1) := by decide +kernel
theorem dX6_init_36 : decode cX6_init 36 = .ok (.iconst (-1), 1) := by decide +kernel
theorem dX6_init_37 : decode cX6_init 37 = .ok (.putfield 33, 3) := by decide +kernel
theorem dX6_init_4 : decode cX6_init 4 = .ok (.aload_n 0, 1) := by decide +kernel
theorem dX6_init_40 : decode cX6_init 40 = .ok (.return_, 1) := by decide +kernel
theorem dX6_init_5 : decode cX6_init 5 = .ok (.aload_n 1, 1) := by decide +kernel
theorem dX6_init_6 : decode cX6_init 6 = .ok (.putfield 9, 3) := by decide +kernel
theorem dX6_init_9 : decode cX6_init 9 = .ok (.aload_n 0, 1) := by decide +kernel
theorem dX7_init_0 : decode cX7_init 0 = .ok (.aload_n 0, 1) := by decide +kernel
theorem dX7_init_1 : decode cX7_init 1 = .ok (.invokespecial 3, 3) := by decide +kernel
theorem dX7_init_10 : decode cX7_init 10 = .ok (.sipush 1024, 3) := by decide +kernel
theorem dX7_init_13 : decode cX7_init 13 = .ok (.newarray .int, 2) := by decide +kernel
theorem dX7_init_15 : decode cX7_init 15 = .ok (.putfield 15, 3) := by decide +kernel
theorem dX7_init_18 : decode cX7_init 18 = .ok (.return_, 1) := by decide +kernel
theorem dX7_init_4 : decode cX7_init 4 = .ok (.aload_n 0, 1) := by decide +kernel
theorem dX7_init_5 : decode cX7_init 5 = .ok (.aload_n 1, 1) := by decide +kernel
theorem dX7_init_6 : decode cX7_init 6 = .ok (.putfield 9, 3) := by decide +kernel
theorem dX7_init_9 : decode cX7_init 9 = .ok (.aload_n 0, 1) := by decide +kernel
theorem dX8_init_0 : decode cX8_init 0 = .ok (.aload_n 0, 1) := by decide +kernel
theorem dX8_init_1 : decode cX8_init 1 = .ok (.invokespecial 1, 3) := by decide +kernel
theorem dX8_init_101 : decode cX8_init 101 = .ok (.dup, 1) := by decide +kernel
theorem dX8_init_102 : decode cX8_init 102 = .ok (.aload_n 0, 1) := by decide +kernel
theorem dX8_init_103 : decode cX8_init 103 = .ok (.getfield 24, 3) := by decide +kernel
theorem dX8_init_106 : decode cX8_init 106 = .ok (.invokespecial 48, 3) := by decide +kernel
theorem dX8_init_109 : decode cX8_init 109 = .ok (.putfield 49, 3) := by decide +kernel
theorem dX8_init_112 : decode cX8_init 112 = .ok (.aload_n 0, 1) := by decide +kernel
theorem dX8_init_113 : decode cX8_init 113 = .ok (.new 53, 3) := by decide +kernel
theorem dX8_init_116 : decode cX8_init 116 = .ok (.dup, 1) := by decide +kernel
theorem dX8_init_117 : decode cX8_init 117 = .ok (.aload_n 0, 1) := by decide +kernel
theorem dX8_init_118 : decode cX8_init 118 = .ok (.getfield 24, 3) := by decide +kernel
theorem dX8_init_12 : decode cX8_init 12 = .ok (.invokespecial 11, 3) := by decide +kernel
theorem dX8_init_121 : decode cX8_init 121 = .ok (.invokespecial 55, 3) := by decide +kernel
theorem dX8_init_124 : decode cX8_init 124 = .ok (.putfield 56, 3) := by decide +kernel
theorem dX8_init_127 : decode cX8_init 127 = .ok (.aload_n 0, 1) := by decide +kernel
theorem dX8_init_128 : decode cX8_init 128 = .ok (.new 7, 3) := by decide +kernel
theorem dX8_init_131 : decode cX8_init 131 = .ok (.dup, 1) := by decide +kernel
theorem dX8_init_132 : decode cX8_init 132 = .ok (.sipush 256, 3) := by decide +kernel
theorem dX8_init_135 : decode cX8_init 135 = .ok (.invokespecial 11, 3) := by decide +kernel
theorem dX8_init_138 : decode cX8_init 138 = .ok (.putfield 60, 3) := by decide +kernel
theorem dX8_init_141 : decode cX8_init 141 = .ok (.aload_n 0, 1) := by decide +kernel
theorem dX8_init_142 : decode cX8_init 142 = .ok (.new 7, 3) := by decide +kernel
theorem dX8_init_145 : decode cX8_init 145 = .ok (.dup, 1) := by decide +kernel
theorem dX8_init_146 : decode cX8_init 146 = .ok (.sipush 256, 3) := by decide +kernel
theorem dX8_init_149 : decode cX8_init 149 = .ok (.invokespecial 11, 3) := by decide +kernel
theorem dX8_init_15 : decode cX8_init 15 = .ok (.putfield 14, 3) := by decide +kernel
theorem dX8_init_152 : decode cX8_init 152 = .ok (.putfield 63, 3) := by decide +kernel
theorem dX8_init_155 : decode cX8_init 155 = .ok (.aload_n 0, 1) := by decide +kernel
theorem dX8_init_156 : decode cX8_init 156 = .ok (.iconst 0, 1) := by decide +kernel
theorem dX8_init_157 : decode cX8_init 157 = .ok (.putfield 66, 3) := by decide +kernel
theorem dX8_init_160 : decode cX8_init 160 = .ok (.aload_n 0, 1) := by decide +kernel
theorem dX8_init_161 : decode cX8_init 161 = .ok (.iconst (-1), 1) := by decide +kernel
theorem dX8_init_162 : decode cX8_init 162 = .ok (.putfield 70, 3) := by decide +kernel
theorem dX8_init_165 : decode cX8_init 165 = .ok (.aload_n 0, 1) := by decide +kernel
theorem dX8_init_166 : decode cX8_init 166 = .ok (.iconst 0, 1) := by decide +kernel
theorem dX8_init_167 : decode cX8_init 167 = .ok (.putfield 73, 3) := by decide +kernel
theorem dX8_init_170 : decode cX8_init 170 = .ok (.return_, 1) := by decide +kernel
theorem dX8_init_18 : decode cX8_init 18 = .ok (.aload_n 0, 1) := by decide +kernel
theorem dX8_init_19 : decode cX8_init 19 = .ok (.iconst 4, 1) := by decide +kernel
theorem dX8_init_20 : decode cX8_init 20 = .ok (.anewarray 7, 3) := by decide +kernel
theorem dX8_init_23 : decode cX8_init 23 = .ok (.putfield 18, 3) := by decide +kernel
theorem dX8_init_26 : decode cX8_init 26 = .ok (.iconst 0, 1) := by decide +kernel
theorem dX8_init_27 : decode cX8_init 27 = .ok (.istore_n 1, 1) := by decide +kernel
theorem dX8_init_28 : decode cX8_init 28 = .ok (.iload_n 1, 1) := by decide +kernel
theorem dX8_init_29 : decode cX8_init 29 = .ok (.iconst 4, 1) := by decide +kernel
theorem dX8_init_30 : decode cX8_init 30 = .ok (.if_icmp .ge 24, 3) := by decide +kernel
theorem dX8_init_33 : decode cX8_init 33 = .ok (.aload_n 0, 1) := by decide +kernel
theorem dX8_init_34 : decode cX8_init 34 = .ok (.getfield 18, 3) := by decide +kernel
theorem dX8_init_37 : decode cX8_init 37 = .ok (.iload_n 1, 1) := by decide +kernel
theorem dX8_init_38 : decode cX8_init 38 = .ok (.new 7, 3) := by decide +kernel
theorem dX8_init_4 : decode cX8_init 4 = .ok (.aload_n 0, 1) := by decide +kernel
theorem dX8_init_41 : decode cX8_init 41 = .ok (.dup, 1) := by decide +kernel
theorem dX8_init_42 : decode cX8_init 42 = .ok (.bipush 120, 2) := by decide +kernel
theorem dX8_init_44 : decode cX8_init 44 = .ok (.invokespecial 11, 3) := by decide +kernel
theorem dX8_init_47 : decode cX8_init 47 = .ok (.aastore, 1) := by decide +kernel
theorem dX8_init_48 : decode cX8_init 48 = .ok (.iinc 1 1, 3) := by decide +kernel
theorem dX8_init_5 : decode cX8_init 5 = .ok (.new 7, 3) := by decide +kernel
theorem dX8_init_51 : decode cX8_init 51 = .ok (.goto (-23), 3) := by decide +kernel
theorem dX8_init_54 : decode cX8_init 54 = .ok (.aload_n 0, 1) := by decide +kernel
theorem dX8_init_55 : decode cX8_init 55 = .ok (.bipush 8, 2) := by decide +kernel
theorem dX8_init_57 : decode cX8_init 57 = .ok (.anewarray 22, 3) := by decide +kernel
theorem dX8_init_60 : decode cX8_init 60 = .ok (.putfield 24, 3) := by decide +kernel
theorem dX8_init_63 : decode cX8_init 63 = .ok (.aload_n 0, 1) := by decide +kernel
theorem dX8_init_64 : decode cX8_init 64 = .ok (.new 28, 3) := by decide +kernel
theorem dX8_init_67 : decode cX8_init 67 = .ok (.dup, 1) := by decide +kernel
theorem dX8_init_68 : decode cX8_init 68 = .ok (.aload_n 0, 1) := by decide +kernel
theorem dX8_init_69 : decode cX8_init 69 = .ok (.getfield 14, 3) := by decide +kernel
theorem dX8_init_72 : decode cX8_init 72 = .ok (.aload_n 0, 1) := by decide +kernel
theorem dX8_init_73 : decode cX8_init 73 = .ok (.getfield 24, 3) := by decide +kernel
theorem dX8_init_76 : decode cX8_init 76 = .ok (.invokespecial 30, 3) := by decide +kernel
theorem dX8_init_79 : decode cX8_init 79 = .ok (.putfield 33, 3) := by decide +kernel
theorem dX8_init_8 : decode cX8_init 8 = .ok (.dup, 1) := by decide +kernel
theorem dX8_init_82 : decode cX8_init 82 = .ok (.aload_n 0, 1) := by decide +kernel
theorem dX8_init_83 : decode cX8_init 83 = .ok (.new 37, 3) := by decide +kernel
theorem dX8_init_86 : decode cX8_init 86 = .ok (.dup, 1) := by decide +kernel
theorem dX8_init_87 : decode cX8_init 87 = .ok (.aload_n 0, 1) := by decide +kernel
theorem dX8_init_88 : decode cX8_init 88 = .ok (.getfield 24, 3) := by decide +kernel
theorem dX8_init_9 : decode cX8_init 9 = .ok (.sipush 400, 3) := by decide +kernel
theorem dX8_init_91 : decode cX8_init 91 = .ok (.invokespecial 39, 3) := by decide +kernel
theorem dX8_init_94 : decode cX8_init 94 = .ok (.putfield 42, 3) := by decide +kernel
theorem dX8_init_97 : decode cX8_init 97 = .ok (.aload_n 0, 1) := by decide +kernel
theorem dX8_init_98 : decode cX8_init 98 = .ok (.new 46, 3) := by decide +kernel
noncomputable def fJ5_init_d00df_14 (h0 : Nat)  (s0 : Option Nat) (gs : CS) : Option (CS) := gd (qk gs h0 = 2) (nam (wP gs h0 0 s0) (fun st_2 => nam (wI st_2 h0 1 0) (fun st_3 => some st_3)))
set_option maxHeartbeats 1000000 in
theorem mo_J5_init_d00df_14 (h0 : Nat)   (s0 : Option Nat) (gs : CS) (st' : CS) (hf : fJ5_init_d00df_14 h0 s0 gs = some st') : Mo gs st' := by
  unfold fJ5_init_d00df_14 at hf
  have hm : Mo gs gs := Mo.rf
  obtain ⟨hk_1, hf⟩ := gd_some hf
  obtain ⟨st_2, est_2, hf⟩ := nam_some hf
  have hm := hm.wP est_2
  obtain ⟨st_3, est_3, hf⟩ := nam_some hf
  have hm := hm.wI est_3
  have e2 := Option.some.inj hf
  exact e2 ▸ hm
noncomputable def fJ5_init_d00df_4 (h0 : Nat)  (l1 : Int32) (gs : CS) : Option (CS) := pif ((1 : Int32) = 0) (none) (gd (¬ l1 < 0 ∧ l1.toNatClampNeg * 1 ≤ 536870912) (nam (wN gs 22 l1.toNatClampNeg l1.toNatClampNeg) (fun st_6 => fJ5_init_d00df_14 h0 (some (qn gs)) st_6)))
set_option maxHeartbeats 1000000 in
theorem mo_J5_init_d00df_4 (h0 : Nat)   (l1 : Int32) (gs : CS) (st' : CS) (hf : fJ5_init_d00df_4 h0 l1 gs = some st') : Mo gs st' := by
  unfold fJ5_init_d00df_4 at hf
  have hm : Mo gs gs := Mo.rf
  rcases pif_or hf with ⟨c_4, hf⟩ | ⟨c_4, hf⟩
  · cases hf
  · obtain ⟨g_5, hf⟩ := gd_some hf
    obtain ⟨st_6, est_6, hf⟩ := nam_some hf
    have hm := hm.wN est_6
    exact hm.tr (mo_J5_init_d00df_14 h0 (some (qn gs)) st_6 _ hf)
noncomputable def fJ5_init_d00df (h0 : Nat) (p0 : Int32) (st : CS) : Option (CS) := fJ5_init_d00df_4 h0 p0 st
set_option maxHeartbeats 1000000 in
theorem mo_J5_init_d00df (h0 : Nat) (p0 : Int32) (st : CS) (st' : CS) (hf : fJ5_init_d00df h0 p0 st = some st') : Mo st st' := by
  unfold fJ5_init_d00df at hf
  have hm : Mo st st := Mo.rf
  exact hm.tr (mo_J5_init_d00df_4 h0 p0 st _ hf)
def wq_J5_init_d00df : List Cond := .code yJ5_init_d00df cJ5_init_d00df 2 none :: (([.methodLink RJ5 3 objectInit, .instanceMethod objectInit, .code objectInit ⟨#[0xb1]⟩ 1 none, .fieldLink RJ5 18 "java/lang/String" "COMPACT_STRINGS" "Z", .fieldLink RJ5 15 "java/lang/AbstractStringBuilder" "value" "[B", .fieldLink RJ5 22 "java/lang/AbstractStringBuilder" "coder" "B", .arrayClass .byte] : List Cond) ++ wsJ40)
set_option maxHeartbeats 4000000 in
set_option maxRecDepth 100000 in
theorem c_J5_init_d00df (l : Launch) (dC : Nat → ClassId) (dI : Nat → Nat → Nat) (ka ad : Nat → Nat) (ct : Nat → ClassId) (h0 : Nat) (p0 : Int32) (st st' : CS) (hf : fJ5_init_d00df h0 p0 st = some st') (sz : Nat) : Met l yJ5_init_d00df wq_J5_init_d00df ({ frames := 1, cells := (qn st' - qn st), slots := (qs st' - qs st), locals := 16 }) (va_Pc [.ref (ad h0), .int p0] (PrC (dC, dI) ct ka ad st sz)) (va_Qv (fun (_ : Unit) => True) (fun _ => CB (dC, dI) ct ka ad st' (aC ad st sz)) (aC ad st sz)) (qn st' - qn st) (qs st' - qs st) (aC ad st sz) := by
  refine Met.ofW (cc := cJ5_init_d00df) (maxL := 2) (ret := none) (by decide) rfl ?_
  intro p e s m args below meth c s₁ B hml hv
  obtain ⟨rfl, hsz, hw0, hK, hN, hZ, hC, hR, hL, hw1, hw2⟩ := hv
  have hx := B.exec
  have hb := B.bytes
  have hr := B.returns
  have hts := atoms_spec (ws := wq_J5_init_d00df) B.pre
  have hown : s.vm.findClass RJ5 = some m.cls := findClass_of_methodNamed B.named
  have iRJ4 : ∀ w ∈ u_ws RJ4 TJ4 4, w ∈ wq_J5_init_d00df := fun w h => List.mem_cons_of_mem _ (List.mem_append_right _ h)
  subst hsz
  have hp : Cp (dC, dI) ka ad ct (aC ad st s.heap.size) s.heap st s.heap [] := ⟨fun i a b => ⟨hw0 i a b, Or.inl ⟨i, a, b, rfl⟩⟩, va_S.rf, hw1, hw2⟩
  generalize hAe : aC ad st s.heap.size = A at hp hZ hC ⊢
  have hA : ∀ q : Nat, s.heap.size ≤ q → A q := fun q h => by rw [← hAe]; exact Or.inr h
  have hl := lv_entry ([.ref (ad h0), .int p0]) (n := 2) (Nat.le_of_ble_eq_true rfl)
  rw [lg_entry_eq]
  generalize (lg_sl ([.ref (ad h0), .int p0]) ++ List.replicate (2 - (lg_sl ([.ref (ad h0), .int p0])).length) Slot.unset).toArray = ls at hl ⊢
  have hl : lv_has ls 2 [(0, .ref (ad h0)), (1, .int p0)] := hl
  have hm : Mo st st := Mo.rf
  refine W.widen (k := qn st - qn st) (n := qs st - qs st) (Nat.zero_le _) (Nat.zero_le _) ?_
  refine W_blkA (fun (u : (Option Nat) × CS) H locs ls => match u with | (s0, gs) => fJ5_init_d00df_14 h0 s0 gs = some st' ∧ Cp (dC, dI) ka ad ct A s.heap gs H locs ∧ lv_has ls 2 [(0, .ref (ad h0))] ∧ Mo st gs) (fun (u : (Option Nat) × CS) ls => match u with | (s0, gs) => F0 m 14 ls [va_rf (Option.map ad s0), .ref (ad h0)]) (fun (u : (Option Nat) × CS) => match u with | (s0, gs) => qn gs - qn st) (fun (u : (Option Nat) × CS) => match u with | (s0, gs) => qs gs - qs st) ?_ (fun J14 => ?_)
  · intro u H locs ls hu
    obtain ⟨s0, gs⟩ := u
    obtain ⟨hf, hp, hl, hm⟩ := hu
    show W p l e _ s m _ below meth c _ _ (qn gs - qn st) (qs gs - qs st) _ (F0 m 14 ls [va_rf (Option.map ad s0), .ref (ad h0)])
    unfold fJ5_init_d00df_14 at hf
    obtain ⟨hk_1, hf⟩ := gd_some hf
    refine q_pp (ci := 1) (C := RJ4) (T := TJ4) (N := 4) (k := 0) (v := s0) (ty := (.array .byte)) hx hb hts iRJ4 tyJ4 tyJ4_ok nmJ4 hown hK hp hk_1 (by decide) rfl rfl (by decide) rfl (Or.inl (hts (.fieldLink RJ5 15 "java/lang/AbstractStringBuilder" "value" "[B") (by decide +kernel))) (fun _ h9 => h9) rfl (by decide +kernel) (rf_narA rfl _) dJ5_init_d00df_14 (fun H locs hp => ?_)
    obtain ⟨st_2, est_2, hf⟩ := nam_some hf
    rw [← est_2] at hp
    have hm := hm.wP est_2
    refine W.widen (k := qn st_2 - qn st) (n := qs st_2 - qs st) (by rw [est_2]; exact Nat.le_refl _) (by rw [est_2]; exact Nat.le_refl _) ?_
    have hk_1 : qk st_2 h0 = 2 := by rw [est_2]; exact hk_1
    refine lv_aload_n hx hb dJ5_init_d00df_17 rfl (lv_at hl 0 rfl) ?_
    refine lv_iconst (v := 0) hx hb dJ5_init_d00df_18 (by decide) ?_
    refine q_pi (ci := 1) (C := RJ4) (T := TJ4) (N := 4) (k := 1) (v := 0) (ty := .byte) hx hb hts iRJ4 tyJ4 tyJ4_ok nmJ4 hown hK hp hk_1 (by decide) rfl rfl (by decide) rfl (Or.inl (hts (.fieldLink RJ5 22 "java/lang/AbstractStringBuilder" "coder" "B") (by decide +kernel))) (fun _ h9 => h9) rfl (by decide +kernel) rfl rfl dJ5_init_d00df_19 (fun H locs hp => ?_)
    obtain ⟨st_3, est_3, hf⟩ := nam_some hf
    rw [← est_3] at hp
    have hm := hm.wI est_3
    refine W.widen (k := qn st_3 - qn st) (n := qs st_3 - qs st) (by rw [est_3]; exact Nat.le_refl _) (by rw [est_3]; exact Nat.le_refl _) ?_
    have hk_1 : qk st_3 h0 = 2 := by rw [est_3]; exact hk_1
    refine lv_goto (tgt := 38) hx hb dJ5_init_d00df_22 (by decide) ?_
    have e2 := Option.some.inj hf
    refine W.widen (k := qn st' - qn st) (n := qs st' - qs st) (by rw [e2]; exact Nat.le_refl _) (by rw [e2]; exact Nat.le_refl _) ?_
    exact W.vret hx hb hr (fun t ht hW => ⟨⟨(), rfl, trivial, Cp.end e2 hp ht⟩, hp.2.1.F ht⟩) hp.2.1.2.2 dJ5_init_d00df_38
  refine W_blkA (fun (u : Int32 × CS) H locs ls => match u with | (l1, gs) => fJ5_init_d00df_4 h0 l1 gs = some st' ∧ Cp (dC, dI) ka ad ct A s.heap gs H locs ∧ lv_has ls 2 [(0, .ref (ad h0)), (1, .int l1)] ∧ Mo st gs) (fun (u : Int32 × CS) ls => match u with | (l1, gs) => F0 m 4 ls []) (fun (u : Int32 × CS) => match u with | (l1, gs) => qn gs - qn st) (fun (u : Int32 × CS) => match u with | (l1, gs) => qs gs - qs st) ?_ (fun J4 => ?_)
  · intro u H locs ls hu
    obtain ⟨l1, gs⟩ := u
    obtain ⟨hf, hp, hl, hm⟩ := hu
    show W p l e _ s m _ below meth c _ _ (qn gs - qn st) (qs gs - qs st) _ (F0 m 4 ls [])
    unfold fJ5_init_d00df_4 at hf
    refine va_gets (C := "java/lang/String") (n := "COMPACT_STRINGS") (d := "Z") (v := .int 1) hx hb hZ hp.2.1 hown (hts (.fieldLink RJ5 18 "java/lang/String" "COMPACT_STRINGS" "Z") (by decide +kernel)) (fun _ h9 => h9) dJ5_init_d00df_4 ?_
    refine lv_if_eq (tgt := 25) hx hb dJ5_init_d00df_7 (by decide) (fun c_4 => ?_) (fun c_4 => ?_)
    · have hf := pif_t c_4 hf
      cases hf
    · have hf := pif_f c_4 hf
      refine lv_aload_n hx hb dJ5_init_d00df_10 rfl (lv_at hl 0 rfl) ?_
      refine lv_iload_n hx hb dJ5_init_d00df_11 rfl (lv_at hl 1 rfl) ?_
      obtain ⟨g_5, hf⟩ := gd_some hf
      obtain ⟨st_6, est_6, hf⟩ := nam_some hf
      have hmr := mo_J5_init_d00df_14 h0 _ _ _ hf
      refine q_newa (kd := 22) (t0 := 1) (ty := .byte) (atype := .byte) hx hb (hts (.arrayClass .byte) (by decide +kernel)) rfl hK hp hA (by decide) (by decide) rfl (fun _ => rfl) rfl g_5.1 g_5.2 (by show qn gs - qn st + 1 ≤ qn st' - qn st; have := hmr.1; have := hm.1; have := (wN_n est_6).1; omega) (by show qs gs - qs st + l1.toNatClampNeg ≤ qs st' - qs st; have := hmr.2.1; have := hm.2.1; have := (wN_n est_6).2; omega) dJ5_init_d00df_12 (fun H hp => ?_)
      rw [← est_6] at hp
      refine W.widen (k := qn st_6 - qn st) (n := qs st_6 - qs st) (by have := hm.1; have := (wN_n est_6).1; omega) (by have := hm.2.1; have := (wN_n est_6).2; omega) ?_
      have hm := hm.wN est_6
      exact J14 ((some (qn gs)), st_6) _ _ _ ⟨hf, hp, (lv_sub hl [0] rfl), hm⟩
  unfold fJ5_init_d00df at hf
  refine lv_aload_n hx hb dJ5_init_d00df_0 rfl (lv_at hl 0 rfl) ?_
  refine W.objInit hx hb hown (hts (.methodLink RJ5 3 objectInit) (by decide +kernel)) (hts (.instanceMethod objectInit) (by decide +kernel)) (hts (.code objectInit ⟨#[0xb1]⟩ 1 none) (by decide +kernel)) rfl (by rw [hml]; exact hl.1) rfl dJ5_init_d00df_1 (Nat.le_of_ble_eq_true rfl) (Nat.le_of_ble_eq_true rfl) ?_
  refine W.eq (g2 := F0 m 4 ls []) rfl ?_
  exact J4 (p0, st) _ _ _ ⟨hf, hp, (lv_sub hl [0, 1] rfl), hm⟩
noncomputable def fJ4_init_da8c8_6 (h0 : Nat)  (gs : CS) : Option (CS) := some gs
set_option maxHeartbeats 1000000 in
theorem mo_J4_init_da8c8_6 (h0 : Nat)   (gs : CS) (st' : CS) (hf : fJ4_init_da8c8_6 h0 gs = some st') : Mo gs st' := by
  unfold fJ4_init_da8c8_6 at hf
  have hm : Mo gs gs := Mo.rf
  have e2 := Option.some.inj hf
  exact e2 ▸ hm
noncomputable def fJ4_init_da8c8 (h0 : Nat) (st : CS) : Option (CS) := gd (qk st h0 = 2) (bnv (fJ5_init_d00df h0 16 st) (fun st_2 => fJ4_init_da8c8_6 h0 st_2))
set_option maxHeartbeats 1000000 in
theorem mo_J4_init_da8c8 (h0 : Nat) (st : CS) (st' : CS) (hf : fJ4_init_da8c8 h0 st = some st') : Mo st st' := by
  unfold fJ4_init_da8c8 at hf
  have hm : Mo st st := Mo.rf
  obtain ⟨hk_1, hf⟩ := gd_some hf
  obtain ⟨st_2, hc_3, hf⟩ := bnv_some hf
  have hm := hm.tr (mo_J5_init_d00df h0 16 _ _ hc_3)
  exact hm.tr (mo_J4_init_da8c8_6 h0 st_2 _ hf)
def wq_J4_init_da8c8 : List Cond := .code yJ4_init_da8c8 cJ4_init_da8c8 1 none :: (([.instanceMethod yJ5_init_d00df, .initialized RJ5, .methodLink RJ4 1 yJ5_init_d00df, .code yJ5_init_d00df cJ5_init_d00df 2 none, .methodLink RJ5 3 objectInit, .instanceMethod objectInit, .code objectInit ⟨#[0xb1]⟩ 1 none, .fieldLink RJ5 18 "java/lang/String" "COMPACT_STRINGS" "Z", .fieldLink RJ5 15 "java/lang/AbstractStringBuilder" "value" "[B", .fieldLink RJ5 22 "java/lang/AbstractStringBuilder" "coder" "B", .arrayClass .byte] : List Cond) ++ wsJ40)
theorem gs_wq_J4_init_da8c8_wsJ40 : GoodIn wq_J4_init_da8c8 wsJ40 := fun w h => ⟨List.mem_cons_of_mem _ (List.mem_append_right _ h), (gt_wsJ40 w h).2⟩
set_option maxRecDepth 20000 in
theorem gq_J4_init_da8c8_J5_init_d00df_1 : GoodIn wq_J4_init_da8c8 (wq_J5_init_d00df) := (goodIn_ca (goodIn_r _ [4, 5, 6, 7, 8, 9, 10, 11] rfl rfl) gs_wq_J4_init_da8c8_wsJ40)
set_option maxHeartbeats 4000000 in
set_option maxRecDepth 100000 in
theorem c_J4_init_da8c8 (l : Launch) (dC : Nat → ClassId) (dI : Nat → Nat → Nat) (ka ad : Nat → Nat) (ct : Nat → ClassId) (h0 : Nat) (st st' : CS) (hf : fJ4_init_da8c8 h0 st = some st') (sz : Nat) : Met l yJ4_init_da8c8 wq_J4_init_da8c8 ({ frames := 2, cells := (qn st' - qn st), slots := (qs st' - qs st), locals := 41 }) (va_Pc [.ref (ad h0)] (PrC (dC, dI) ct ka ad st sz)) (va_Qv (fun (_ : Unit) => True) (fun _ => CB (dC, dI) ct ka ad st' (aC ad st sz)) (aC ad st sz)) (qn st' - qn st) (qs st' - qs st) (aC ad st sz) := by
  refine Met.ofW (cc := cJ4_init_da8c8) (maxL := 1) (ret := none) (by decide) rfl ?_
  intro p e s m args below meth c s₁ B hml hv
  obtain ⟨rfl, hsz, hw0, hK, hN, hZ, hC, hR, hL, hw1, hw2⟩ := hv
  have hx := B.exec
  have hb := B.bytes
  have hr := B.returns
  have hts := atoms_spec (ws := wq_J4_init_da8c8) B.pre
  have hown : s.vm.findClass RJ4 = some m.cls := findClass_of_methodNamed B.named
  subst hsz
  have hp : Cp (dC, dI) ka ad ct (aC ad st s.heap.size) s.heap st s.heap [] := ⟨fun i a b => ⟨hw0 i a b, Or.inl ⟨i, a, b, rfl⟩⟩, va_S.rf, hw1, hw2⟩
  generalize hAe : aC ad st s.heap.size = A at hp hZ hC ⊢
  have hA : ∀ q : Nat, s.heap.size ≤ q → A q := fun q h => by rw [← hAe]; exact Or.inr h
  have hl := lv_entry ([.ref (ad h0)]) (n := 1) (Nat.le_of_ble_eq_true rfl)
  rw [lg_entry_eq]
  generalize (lg_sl ([.ref (ad h0)]) ++ List.replicate (1 - (lg_sl ([.ref (ad h0)])).length) Slot.unset).toArray = ls at hl ⊢
  have hl : lv_has ls 1 [(0, .ref (ad h0))] := hl
  have hm : Mo st st := Mo.rf
  refine W.widen (k := qn st - qn st) (n := qs st - qs st) (Nat.zero_le _) (Nat.zero_le _) ?_
  refine W_blkA (fun (gs : CS) H locs ls => fJ4_init_da8c8_6 h0 gs = some st' ∧ Cp (dC, dI) ka ad ct A s.heap gs H locs ∧ lv_has ls 1 [] ∧ Mo st gs) (fun (gs : CS) ls => F0 m 6 ls []) (fun (gs : CS) => qn gs - qn st) (fun (gs : CS) => qs gs - qs st) ?_ (fun J6 => ?_)
  · intro u H locs ls hu
    obtain ⟨gs, rfl⟩ : ∃ z, z = u := ⟨_, rfl⟩
    obtain ⟨hf, hp, hl, hm⟩ := hu
    show W p l e _ s m _ below meth c _ _ (qn gs - qn st) (qs gs - qs st) _ (F0 m 6 ls [])
    unfold fJ4_init_da8c8_6 at hf
    have e2 := Option.some.inj hf
    refine W.widen (k := qn st' - qn st) (n := qs st' - qs st) (by rw [e2]; exact Nat.le_refl _) (by rw [e2]; exact Nat.le_refl _) ?_
    exact W.vret hx hb hr (fun t ht hW => ⟨⟨(), rfl, trivial, Cp.end e2 hp ht⟩, hp.2.1.F ht⟩) hp.2.1.2.2 dJ4_init_da8c8_6
  unfold fJ4_init_da8c8 at hf
  refine lv_aload_n hx hb dJ4_init_da8c8_0 rfl (lv_at hl 0 rfl) ?_
  refine lv_bipush (v := 16) hx hb dJ4_init_da8c8_1 (by decide) ?_
  obtain ⟨hk_1, hf⟩ := gd_some hf
  obtain ⟨st_2, hc_3, hf⟩ := bnv_some hf
  have lthk_1 := hp.2.2.1.lt (i := h0) (by rw [hk_1]; decide)
  have hmc := (mo_J5_init_d00df h0 16 _ _ hc_3)
  have hmr := mo_J4_init_da8c8_6 h0  _ _ hf
  refine q_cv hp hA (va_runI (As := [.int 16]) (rest := []) ⟨hx, hb, hml, hown, hts⟩ (c_J5_init_d00df l dC dI ka ad ct h0 16 _ _ hc_3 _) (cwI 1 hts gq_J4_init_da8c8_J5_init_d00df_1 rfl rfl rfl (hts (.initialized RJ5) (by decide +kernel)) (hts (.methodLink RJ4 1 yJ5_init_d00df) (by decide +kernel)) (hts (.instanceMethod yJ5_init_d00df) (by decide +kernel)) rfl (by decide +kernel) ⟨Nat.le_of_ble_eq_true rfl, Nat.le_of_ble_eq_true rfl⟩) ⟨PrC.blind _, q_pre hp hK hN hZ hC hR hL hA⟩ rfl rfl hl.1 rfl (lv_room (Nat.le_of_ble_eq_true rfl)) dJ4_init_da8c8_3 ⟨by show qn st - qn st + (qn st_2 - qn st) ≤ qn st' - qn st; have := hmr.1; have := hm.1; have := hmc.1; omega, by show qs st - qs st + (qs st_2 - qs st) ≤ qs st' - qs st; have := hmr.2.1; have := hm.2.1; have := hmc.2.1; omega⟩) (fun H locs hp => ?_)
  have hk_1 : qk st_2 h0 = 2 := ((mo_J5_init_d00df h0 16 _ _ hc_3).2.2 _ lthk_1).1.trans hk_1
  refine W.widen (k := qn st_2 - qn st) (n := qs st_2 - qs st) (by have := hm.1; have := hmc.1; omega) (by have := hm.2.1; have := hmc.2.1; omega) ?_
  have hm := hm.tr hmc
  exact J6 st_2 _ _ _ ⟨hf, hp, (lv_sub hl [] rfl), hm⟩
noncomputable def fX2_init (h0 : Nat) (st : CS) : Option (CS) := gd (qk st h0 = 5) (nam (wI st h0 0 0) (fun st_2 => nam (wI st_2 h0 1 0) (fun st_3 => nam (wJ st_3 h0 2 0) (fun st_4 => nam (wI st_4 h0 3 0) (fun st_5 => nam (wI st_5 h0 4 0) (fun st_6 => nam (wI st_6 h0 5 0) (fun st_7 => nam (wI st_7 h0 6 0) (fun st_8 => nam (wI st_8 h0 7 0) (fun st_9 => some st_9)))))))))
set_option maxHeartbeats 1000000 in
theorem mo_X2_init (h0 : Nat) (st : CS) (st' : CS) (hf : fX2_init h0 st = some st') : Ke st st' := by
  unfold fX2_init at hf
  have hm : Ke st st := Ke.rf
  obtain ⟨hk_1, hf⟩ := gd_some hf
  obtain ⟨st_2, est_2, hf⟩ := nam_some hf
  have hm := hm.wI est_2
  obtain ⟨st_3, est_3, hf⟩ := nam_some hf
  have hm := hm.wI est_3
  obtain ⟨st_4, est_4, hf⟩ := nam_some hf
  have hm := hm.wJ est_4
  obtain ⟨st_5, est_5, hf⟩ := nam_some hf
  have hm := hm.wI est_5
  obtain ⟨st_6, est_6, hf⟩ := nam_some hf
  have hm := hm.wI est_6
  obtain ⟨st_7, est_7, hf⟩ := nam_some hf
  have hm := hm.wI est_7
  obtain ⟨st_8, est_8, hf⟩ := nam_some hf
  have hm := hm.wI est_8
  obtain ⟨st_9, est_9, hf⟩ := nam_some hf
  have hm := hm.wI est_9
  have e2 := Option.some.inj hf
  exact e2 ▸ hm
def wq_X2_init : List Cond := .code yX2_init cX2_init 1 none :: (([.methodLink RX2 3 objectInit, .instanceMethod objectInit, .code objectInit ⟨#[0xb1]⟩ 1 none, .fieldLink RX2 9 "RecordBench$Piece" "number" "I", .fieldLink RX2 15 "RecordBench$Piece" "withLength" "Z", .fieldLink RX2 19 "RecordBench$Piece" "raw" "J", .fieldLink RX2 23 "RecordBench$Piece" "body" "I", .fieldLink RX2 26 "RecordBench$Piece" "end" "I", .fieldLink RX2 29 "RecordBench$Piece" "fault" "I", .fieldLink RX2 32 "RecordBench$Piece" "pos" "I", .fieldLink RX2 35 "RecordBench$Piece" "broken" "Z"] : List Cond) ++ wsX20)
set_option maxHeartbeats 4000000 in
set_option maxRecDepth 100000 in
theorem c_X2_init (l : Launch) (dC : Nat → ClassId) (dI : Nat → Nat → Nat) (ka ad : Nat → Nat) (ct : Nat → ClassId) (h0 : Nat) (st st' : CS) (hf : fX2_init h0 st = some st') (sz : Nat) : Met l yX2_init wq_X2_init ({ frames := 1, cells := 0, slots := 0, locals := 16 }) (va_Pc [.ref (ad h0)] (PrC (dC, dI) ct ka ad st sz)) (va_Qv (fun (_ : Unit) => True) (fun _ => CB (dC, dI) ct ka ad st' (aC ad st sz)) (aC ad st sz)) 0 0 (aC ad st sz) := by
  refine Met.ofW (cc := cX2_init) (maxL := 1) (ret := none) (by decide) rfl ?_
  intro p e s m args below meth c s₁ B hml hv
  obtain ⟨rfl, hsz, hw0, hK, hN, hZ, hC, hR, hL, hw1, hw2⟩ := hv
  have hx := B.exec
  have hb := B.bytes
  have hr := B.returns
  have hts := atoms_spec (ws := wq_X2_init) B.pre
  have hown : s.vm.findClass RX2 = some m.cls := findClass_of_methodNamed B.named
  have iRX2 : ∀ w ∈ u_ws RX2 TX2 8, w ∈ wq_X2_init := fun w h => List.mem_cons_of_mem _ (List.mem_append_right _ h)
  subst hsz
  have hp : Cp (dC, dI) ka ad ct (aC ad st s.heap.size) s.heap st s.heap [] := ⟨fun i a b => ⟨hw0 i a b, Or.inl ⟨i, a, b, rfl⟩⟩, va_S.rf, hw1, hw2⟩
  generalize hAe : aC ad st s.heap.size = A at hp hZ hC ⊢
  have hA : ∀ q : Nat, s.heap.size ≤ q → A q := fun q h => by rw [← hAe]; exact Or.inr h
  have hl := lv_entry ([.ref (ad h0)]) (n := 1) (Nat.le_of_ble_eq_true rfl)
  rw [lg_entry_eq]
  generalize (lg_sl ([.ref (ad h0)]) ++ List.replicate (1 - (lg_sl ([.ref (ad h0)])).length) Slot.unset).toArray = ls at hl ⊢
  have hl : lv_has ls 1 [(0, .ref (ad h0))] := hl
  unfold fX2_init at hf
  refine lv_aload_n hx hb dX2_init_0 rfl (lv_at hl 0 rfl) ?_
  refine W.objInit hx hb hown (hts (.methodLink RX2 3 objectInit) (by decide +kernel)) (hts (.instanceMethod objectInit) (by decide +kernel)) (hts (.code objectInit ⟨#[0xb1]⟩ 1 none) (by decide +kernel)) rfl (by rw [hml]; exact hl.1) rfl dX2_init_1 (Nat.le_of_ble_eq_true rfl) (Nat.le_of_ble_eq_true rfl) ?_
  refine W.eq (g2 := F0 m 4 ls []) rfl ?_
  refine lv_aload_n hx hb dX2_init_4 rfl (lv_at hl 0 rfl) ?_
  refine lv_iconst (v := 0) hx hb dX2_init_5 (by decide) ?_
  obtain ⟨hk_1, hf⟩ := gd_some hf
  refine q_pi (ci := 4) (C := RX2) (T := TX2) (N := 8) (k := 0) (v := 0) (ty := .int) hx hb hts iRX2 tyX2 tyX2_ok nmX2 hown hK hp hk_1 (by decide) rfl rfl (by decide) rfl (Or.inl (hts (.fieldLink RX2 9 "RecordBench$Piece" "number" "I") (by decide +kernel))) (fun _ h9 => h9) rfl (by decide +kernel) rfl rfl dX2_init_6 (fun H locs hp => ?_)
  obtain ⟨st_2, est_2, hf⟩ := nam_some hf
  rw [← est_2] at hp
  have hk_1 : qk st_2 h0 = 5 := by rw [est_2]; exact hk_1
  refine lv_aload_n hx hb dX2_init_9 rfl (lv_at hl 0 rfl) ?_
  refine lv_iconst (v := 0) hx hb dX2_init_10 (by decide) ?_
  refine q_pi (ci := 4) (C := RX2) (T := TX2) (N := 8) (k := 1) (v := 0) (ty := .boolean) hx hb hts iRX2 tyX2 tyX2_ok nmX2 hown hK hp hk_1 (by decide) rfl rfl (by decide) rfl (Or.inl (hts (.fieldLink RX2 15 "RecordBench$Piece" "withLength" "Z") (by decide +kernel))) (fun _ h9 => h9) rfl (by decide +kernel) rfl rfl dX2_init_11 (fun H locs hp => ?_)
  obtain ⟨st_3, est_3, hf⟩ := nam_some hf
  rw [← est_3] at hp
  have hk_1 : qk st_3 h0 = 5 := by rw [est_3]; exact hk_1
  refine lv_aload_n hx hb dX2_init_14 rfl (lv_at hl 0 rfl) ?_
  refine lv_lconst (v := 0) hx hb dX2_init_15 (by decide) ?_
  refine q_pj (ci := 4) (C := RX2) (T := TX2) (N := 8) (k := 2) (v := 0) (ty := .long) hx hb hts iRX2 tyX2 tyX2_ok nmX2 hown hK hp hk_1 (by decide) rfl rfl (by decide) rfl (Or.inl (hts (.fieldLink RX2 19 "RecordBench$Piece" "raw" "J") (by decide +kernel))) (fun _ h9 => h9) rfl (by decide +kernel) rfl rfl dX2_init_16 (fun H locs hp => ?_)
  obtain ⟨st_4, est_4, hf⟩ := nam_some hf
  rw [← est_4] at hp
  have hk_1 : qk st_4 h0 = 5 := by rw [est_4]; exact hk_1
  refine lv_aload_n hx hb dX2_init_19 rfl (lv_at hl 0 rfl) ?_
  refine lv_iconst (v := 0) hx hb dX2_init_20 (by decide) ?_
  refine q_pi (ci := 4) (C := RX2) (T := TX2) (N := 8) (k := 3) (v := 0) (ty := .int) hx hb hts iRX2 tyX2 tyX2_ok nmX2 hown hK hp hk_1 (by decide) rfl rfl (by decide) rfl (Or.inl (hts (.fieldLink RX2 23 "RecordBench$Piece" "body" "I") (by decide +kernel))) (fun _ h9 => h9) rfl (by decide +kernel) rfl rfl dX2_init_21 (fun H locs hp => ?_)
  obtain ⟨st_5, est_5, hf⟩ := nam_some hf
  rw [← est_5] at hp
  have hk_1 : qk st_5 h0 = 5 := by rw [est_5]; exact hk_1
  refine lv_aload_n hx hb dX2_init_24 rfl (lv_at hl 0 rfl) ?_
  refine lv_iconst (v := 0) hx hb dX2_init_25 (by decide) ?_
  refine q_pi (ci := 4) (C := RX2) (T := TX2) (N := 8) (k := 4) (v := 0) (ty := .int) hx hb hts iRX2 tyX2 tyX2_ok nmX2 hown hK hp hk_1 (by decide) rfl rfl (by decide) rfl (Or.inl (hts (.fieldLink RX2 26 "RecordBench$Piece" "end" "I") (by decide +kernel))) (fun _ h9 => h9) rfl (by decide +kernel) rfl rfl dX2_init_26 (fun H locs hp => ?_)
  obtain ⟨st_6, est_6, hf⟩ := nam_some hf
  rw [← est_6] at hp
  have hk_1 : qk st_6 h0 = 5 := by rw [est_6]; exact hk_1
  refine lv_aload_n hx hb dX2_init_29 rfl (lv_at hl 0 rfl) ?_
  refine lv_iconst (v := 0) hx hb dX2_init_30 (by decide) ?_
  refine q_pi (ci := 4) (C := RX2) (T := TX2) (N := 8) (k := 5) (v := 0) (ty := .int) hx hb hts iRX2 tyX2 tyX2_ok nmX2 hown hK hp hk_1 (by decide) rfl rfl (by decide) rfl (Or.inl (hts (.fieldLink RX2 29 "RecordBench$Piece" "fault" "I") (by decide +kernel))) (fun _ h9 => h9) rfl (by decide +kernel) rfl rfl dX2_init_31 (fun H locs hp => ?_)
  obtain ⟨st_7, est_7, hf⟩ := nam_some hf
  rw [← est_7] at hp
  have hk_1 : qk st_7 h0 = 5 := by rw [est_7]; exact hk_1
  refine lv_aload_n hx hb dX2_init_34 rfl (lv_at hl 0 rfl) ?_
  refine lv_iconst (v := 0) hx hb dX2_init_35 (by decide) ?_
  refine q_pi (ci := 4) (C := RX2) (T := TX2) (N := 8) (k := 6) (v := 0) (ty := .int) hx hb hts iRX2 tyX2 tyX2_ok nmX2 hown hK hp hk_1 (by decide) rfl rfl (by decide) rfl (Or.inl (hts (.fieldLink RX2 32 "RecordBench$Piece" "pos" "I") (by decide +kernel))) (fun _ h9 => h9) rfl (by decide +kernel) rfl rfl dX2_init_36 (fun H locs hp => ?_)
  obtain ⟨st_8, est_8, hf⟩ := nam_some hf
  rw [← est_8] at hp
  have hk_1 : qk st_8 h0 = 5 := by rw [est_8]; exact hk_1
  refine lv_aload_n hx hb dX2_init_39 rfl (lv_at hl 0 rfl) ?_
  refine lv_iconst (v := 0) hx hb dX2_init_40 (by decide) ?_
  refine q_pi (ci := 4) (C := RX2) (T := TX2) (N := 8) (k := 7) (v := 0) (ty := .boolean) hx hb hts iRX2 tyX2 tyX2_ok nmX2 hown hK hp hk_1 (by decide) rfl rfl (by decide) rfl (Or.inl (hts (.fieldLink RX2 35 "RecordBench$Piece" "broken" "Z") (by decide +kernel))) (fun _ h9 => h9) rfl (by decide +kernel) rfl rfl dX2_init_41 (fun H locs hp => ?_)
  obtain ⟨st_9, est_9, hf⟩ := nam_some hf
  rw [← est_9] at hp
  have hk_1 : qk st_9 h0 = 5 := by rw [est_9]; exact hk_1
  have e2 := Option.some.inj hf
  exact W.vret hx hb hr (fun t ht hW => ⟨⟨(), rfl, trivial, Cp.end e2 hp ht⟩, hp.2.1.F ht⟩) hp.2.1.2.2 dX2_init_44
noncomputable def fX5_init_12 (h0 : Nat)  (s0 : Option Nat) (gs : CS) : Option (CS) := gd (qk gs h0 = 8) (nam (wP gs h0 0 s0) (fun st_2 => nam (wI st_2 h0 1 0) (fun st_3 => some st_3)))
set_option maxHeartbeats 1000000 in
theorem mo_X5_init_12 (h0 : Nat)   (s0 : Option Nat) (gs : CS) (st' : CS) (hf : fX5_init_12 h0 s0 gs = some st') : Mo gs st' := by
  unfold fX5_init_12 at hf
  have hm : Mo gs gs := Mo.rf
  obtain ⟨hk_1, hf⟩ := gd_some hf
  obtain ⟨st_2, est_2, hf⟩ := nam_some hf
  have hm := hm.wP est_2
  obtain ⟨st_3, est_3, hf⟩ := nam_some hf
  have hm := hm.wI est_3
  have e2 := Option.some.inj hf
  exact e2 ▸ hm
noncomputable def fX5_init_10 (h0 : Nat)  (s0 : Int32) (gs : CS) : Option (CS) := gd (¬ s0 < 0 ∧ s0.toNatClampNeg * 4 ≤ 536870912) (nam (wN gs 21 s0.toNatClampNeg s0.toNatClampNeg) (fun st_5 => fX5_init_12 h0 (some (qn gs)) st_5))
set_option maxHeartbeats 1000000 in
theorem mo_X5_init_10 (h0 : Nat)   (s0 : Int32) (gs : CS) (st' : CS) (hf : fX5_init_10 h0 s0 gs = some st') : Mo gs st' := by
  unfold fX5_init_10 at hf
  have hm : Mo gs gs := Mo.rf
  obtain ⟨g_4, hf⟩ := gd_some hf
  obtain ⟨st_5, est_5, hf⟩ := nam_some hf
  have hm := hm.wN est_5
  exact hm.tr (mo_X5_init_12 h0 (some (qn gs)) st_5 _ hf)
noncomputable def fX5_init_4 (h0 : Nat)  (l1 : Int32) (gs : CS) : Option (CS) := fX5_init_10 h0 (if l1 < (0 : Int32) then (0 : Int32) else l1) gs
set_option maxHeartbeats 1000000 in
theorem mo_X5_init_4 (h0 : Nat)   (l1 : Int32) (gs : CS) (st' : CS) (hf : fX5_init_4 h0 l1 gs = some st') : Mo gs st' := by
  unfold fX5_init_4 at hf
  have hm : Mo gs gs := Mo.rf
  exact hm.tr (mo_X5_init_10 h0 (if l1 < (0 : Int32) then (0 : Int32) else l1) gs _ hf)
noncomputable def fX5_init (h0 : Nat) (p0 : Int32) (st : CS) : Option (CS) := fX5_init_4 h0 p0 st
set_option maxHeartbeats 1000000 in
theorem mo_X5_init (h0 : Nat) (p0 : Int32) (st : CS) (st' : CS) (hf : fX5_init h0 p0 st = some st') : Mo st st' := by
  unfold fX5_init at hf
  have hm : Mo st st := Mo.rf
  exact hm.tr (mo_X5_init_4 h0 p0 st _ hf)
def wq_X5_init : List Cond := .code yX5_init cX5_init 2 none :: (([.methodLink RX5 3 objectInit, .instanceMethod objectInit, .code objectInit ⟨#[0xb1]⟩ 1 none, .methodLink RX5 9 Lib.Math.max.name, .static Lib.Math.max.name, .initialized "java/lang/Math", .code Lib.Math.max.name Lib.Math.max.code 2 (some .int), .fieldLink RX5 15 "RecordBench$Row" "bytes" "[I", .fieldLink RX5 21 "RecordBench$Row" "size" "I", .arrayClass .int] : List Cond) ++ wsX50)
set_option maxHeartbeats 4000000 in
set_option maxRecDepth 100000 in
theorem c_X5_init (l : Launch) (dC : Nat → ClassId) (dI : Nat → Nat → Nat) (ka ad : Nat → Nat) (ct : Nat → ClassId) (h0 : Nat) (p0 : Int32) (st st' : CS) (hf : fX5_init h0 p0 st = some st') (sz : Nat) : Met l yX5_init wq_X5_init ({ frames := 1, cells := (qn st' - qn st), slots := (qs st' - qs st), locals := 44 }) (va_Pc [.ref (ad h0), .int p0] (PrC (dC, dI) ct ka ad st sz)) (va_Qv (fun (_ : Unit) => True) (fun _ => CB (dC, dI) ct ka ad st' (aC ad st sz)) (aC ad st sz)) (qn st' - qn st) (qs st' - qs st) (aC ad st sz) := by
  refine Met.ofW (cc := cX5_init) (maxL := 2) (ret := none) (by decide) rfl ?_
  intro p e s m args below meth c s₁ B hml hv
  obtain ⟨rfl, hsz, hw0, hK, hN, hZ, hC, hR, hL, hw1, hw2⟩ := hv
  have hx := B.exec
  have hb := B.bytes
  have hr := B.returns
  have hts := atoms_spec (ws := wq_X5_init) B.pre
  have hown : s.vm.findClass RX5 = some m.cls := findClass_of_methodNamed B.named
  have hin : meth.name = "<init>" := (name_of_methodNamed B.named B.method).1
  have iRX5 : ∀ w ∈ u_ws RX5 TX5 2, w ∈ wq_X5_init := fun w h => List.mem_cons_of_mem _ (List.mem_append_right _ h)
  subst hsz
  have hp : Cp (dC, dI) ka ad ct (aC ad st s.heap.size) s.heap st s.heap [] := ⟨fun i a b => ⟨hw0 i a b, Or.inl ⟨i, a, b, rfl⟩⟩, va_S.rf, hw1, hw2⟩
  generalize hAe : aC ad st s.heap.size = A at hp hZ hC ⊢
  have hA : ∀ q : Nat, s.heap.size ≤ q → A q := fun q h => by rw [← hAe]; exact Or.inr h
  have hl := lv_entry ([.ref (ad h0), .int p0]) (n := 2) (Nat.le_of_ble_eq_true rfl)
  rw [lg_entry_eq]
  generalize (lg_sl ([.ref (ad h0), .int p0]) ++ List.replicate (2 - (lg_sl ([.ref (ad h0), .int p0])).length) Slot.unset).toArray = ls at hl ⊢
  have hl : lv_has ls 2 [(0, .ref (ad h0)), (1, .int p0)] := hl
  have hm : Mo st st := Mo.rf
  refine W.widen (k := qn st - qn st) (n := qs st - qs st) (Nat.zero_le _) (Nat.zero_le _) ?_
  refine W_blkA (fun (u : (Option Nat) × CS) H locs ls => match u with | (s0, gs) => fX5_init_12 h0 s0 gs = some st' ∧ Cp (dC, dI) ka ad ct A s.heap gs H locs ∧ lv_has ls 2 [(0, .ref (ad h0))] ∧ Mo st gs) (fun (u : (Option Nat) × CS) ls => match u with | (s0, gs) => F0 m 12 ls [va_rf (Option.map ad s0), .ref (ad h0)]) (fun (u : (Option Nat) × CS) => match u with | (s0, gs) => qn gs - qn st) (fun (u : (Option Nat) × CS) => match u with | (s0, gs) => qs gs - qs st) ?_ (fun J12 => ?_)
  · intro u H locs ls hu
    obtain ⟨s0, gs⟩ := u
    obtain ⟨hf, hp, hl, hm⟩ := hu
    show W p l e _ s m _ below meth c _ _ (qn gs - qn st) (qs gs - qs st) _ (F0 m 12 ls [va_rf (Option.map ad s0), .ref (ad h0)])
    unfold fX5_init_12 at hf
    obtain ⟨hk_1, hf⟩ := gd_some hf
    refine q_pFp (ci := 7) (C := RX5) (T := TX5) (N := 2) (k := 0) (v := s0) (ty := (.array .int)) hx hb hts iRX5 tyX5 tyX5_ok nmX5 hown hK hp (hp.2.2.1.ge hk_1 (by decide) (by decide) (by decide)) hk_1 (by decide) rfl rfl (by decide) rfl (hts (.fieldLink RX5 15 "RecordBench$Row" "bytes" "[I") (by decide +kernel)) (fun _ h9 => h9) rfl hin rfl (by decide +kernel) (rf_narA rfl _) dX5_init_12 (fun H locs hp => ?_)
    obtain ⟨st_2, est_2, hf⟩ := nam_some hf
    rw [← est_2] at hp
    have hm := hm.wP est_2
    refine W.widen (k := qn st_2 - qn st) (n := qs st_2 - qs st) (by rw [est_2]; exact Nat.le_refl _) (by rw [est_2]; exact Nat.le_refl _) ?_
    have hk_1 : qk st_2 h0 = 8 := by rw [est_2]; exact hk_1
    refine lv_aload_n hx hb dX5_init_15 rfl (lv_at hl 0 rfl) ?_
    refine lv_iconst (v := 0) hx hb dX5_init_16 (by decide) ?_
    refine q_pi (ci := 7) (C := RX5) (T := TX5) (N := 2) (k := 1) (v := 0) (ty := .int) hx hb hts iRX5 tyX5 tyX5_ok nmX5 hown hK hp hk_1 (by decide) rfl rfl (by decide) rfl (Or.inl (hts (.fieldLink RX5 21 "RecordBench$Row" "size" "I") (by decide +kernel))) (fun _ h9 => h9) rfl (by decide +kernel) rfl rfl dX5_init_17 (fun H locs hp => ?_)
    obtain ⟨st_3, est_3, hf⟩ := nam_some hf
    rw [← est_3] at hp
    have hm := hm.wI est_3
    refine W.widen (k := qn st_3 - qn st) (n := qs st_3 - qs st) (by rw [est_3]; exact Nat.le_refl _) (by rw [est_3]; exact Nat.le_refl _) ?_
    have hk_1 : qk st_3 h0 = 8 := by rw [est_3]; exact hk_1
    have e2 := Option.some.inj hf
    refine W.widen (k := qn st' - qn st) (n := qs st' - qs st) (by rw [e2]; exact Nat.le_refl _) (by rw [e2]; exact Nat.le_refl _) ?_
    exact W.vret hx hb hr (fun t ht hW => ⟨⟨(), rfl, trivial, Cp.end e2 hp ht⟩, hp.2.1.F ht⟩) hp.2.1.2.2 dX5_init_20
  refine W_blkA (fun (u : Int32 × CS) H locs ls => match u with | (s0, gs) => fX5_init_10 h0 s0 gs = some st' ∧ Cp (dC, dI) ka ad ct A s.heap gs H locs ∧ lv_has ls 2 [(0, .ref (ad h0))] ∧ Mo st gs) (fun (u : Int32 × CS) ls => match u with | (s0, gs) => F0 m 10 ls [.int s0, .ref (ad h0)]) (fun (u : Int32 × CS) => match u with | (s0, gs) => qn gs - qn st) (fun (u : Int32 × CS) => match u with | (s0, gs) => qs gs - qs st) ?_ (fun J10 => ?_)
  · intro u H locs ls hu
    obtain ⟨s0, gs⟩ := u
    obtain ⟨hf, hp, hl, hm⟩ := hu
    show W p l e _ s m _ below meth c _ _ (qn gs - qn st) (qs gs - qs st) _ (F0 m 10 ls [.int s0, .ref (ad h0)])
    unfold fX5_init_10 at hf
    obtain ⟨g_4, hf⟩ := gd_some hf
    obtain ⟨st_5, est_5, hf⟩ := nam_some hf
    have hmr := mo_X5_init_12 h0 _ _ _ hf
    refine q_newa (kd := 21) (t0 := 0) (ty := .int) (atype := .int) hx hb (hts (.arrayClass .int) (by decide +kernel)) rfl hK hp hA (by decide) (by decide) rfl (fun _ => rfl) rfl g_4.1 g_4.2 (by show qn gs - qn st + 1 ≤ qn st' - qn st; have := hmr.1; have := hm.1; have := (wN_n est_5).1; omega) (by show qs gs - qs st + s0.toNatClampNeg ≤ qs st' - qs st; have := hmr.2.1; have := hm.2.1; have := (wN_n est_5).2; omega) dX5_init_10 (fun H hp => ?_)
    rw [← est_5] at hp
    refine W.widen (k := qn st_5 - qn st) (n := qs st_5 - qs st) (by have := hm.1; have := (wN_n est_5).1; omega) (by have := hm.2.1; have := (wN_n est_5).2; omega) ?_
    have hm := hm.wN est_5
    exact J12 ((some (qn gs)), st_5) _ _ _ ⟨hf, hp, (lv_sub hl [0] rfl), hm⟩
  refine W_blkA (fun (u : Int32 × CS) H locs ls => match u with | (l1, gs) => fX5_init_4 h0 l1 gs = some st' ∧ Cp (dC, dI) ka ad ct A s.heap gs H locs ∧ lv_has ls 2 [(0, .ref (ad h0)), (1, .int l1)] ∧ Mo st gs) (fun (u : Int32 × CS) ls => match u with | (l1, gs) => F0 m 4 ls []) (fun (u : Int32 × CS) => match u with | (l1, gs) => qn gs - qn st) (fun (u : Int32 × CS) => match u with | (l1, gs) => qs gs - qs st) ?_ (fun J4 => ?_)
  · intro u H locs ls hu
    obtain ⟨l1, gs⟩ := u
    obtain ⟨hf, hp, hl, hm⟩ := hu
    show W p l e _ s m _ below meth c _ _ (qn gs - qn st) (qs gs - qs st) _ (F0 m 4 ls [])
    unfold fX5_init_4 at hf
    refine lv_aload_n hx hb dX5_init_4 rfl (lv_at hl 0 rfl) ?_
    refine lv_iload_n hx hb dX5_init_5 rfl (lv_at hl 1 rfl) ?_
    refine lv_iconst (v := 0) hx hb dX5_init_6 (by decide) ?_
    have hmr := mo_X5_init_10 h0 _ _ _ hf
    refine va_mmax hx hb (by rw [hml]; exact hl.1.symm) hown (hts (.methodLink RX5 9 Lib.Math.max.name) (by decide +kernel)) (hts (.static Lib.Math.max.name) (by decide +kernel)) (hts (.initialized "java/lang/Math") (by decide +kernel)) (hts (.code Lib.Math.max.name Lib.Math.max.code 2 (some .int)) (by decide +kernel)) (Nat.le_of_ble_eq_true rfl) (Nat.le_of_ble_eq_true rfl) (by show qn _ - qn st ≤ qn st' - qn st; have := hmr.1; have := hm.1; omega) (by show qs _ - qs st ≤ qs st' - qs st; have := hmr.2.1; have := hm.2.1; omega) dX5_init_7 ?_
    exact J10 ((if l1 < (0 : Int32) then (0 : Int32) else l1), gs) _ _ _ ⟨hf, hp, (lv_sub hl [0] rfl), hm⟩
  unfold fX5_init at hf
  refine lv_aload_n hx hb dX5_init_0 rfl (lv_at hl 0 rfl) ?_
  refine W.objInit hx hb hown (hts (.methodLink RX5 3 objectInit) (by decide +kernel)) (hts (.instanceMethod objectInit) (by decide +kernel)) (hts (.code objectInit ⟨#[0xb1]⟩ 1 none) (by decide +kernel)) rfl (by rw [hml]; exact hl.1) rfl dX5_init_1 (Nat.le_of_ble_eq_true rfl) (Nat.le_of_ble_eq_true rfl) ?_
  refine W.eq (g2 := F0 m 4 ls []) rfl ?_
  exact J4 (p0, st) _ _ _ ⟨hf, hp, (lv_sub hl [0, 1] rfl), hm⟩
noncomputable def fX6_init_22 (h0 : Nat)  (s0 : Option Nat) (gs : CS) : Option (CS) := gd (qk gs h0 = 9) (nam (wP gs h0 2 s0) (fun st_2 => nam (wI st_2 h0 3 0) (fun st_3 => nam (wI st_3 h0 4 0) (fun st_4 => nam (wI st_4 h0 5 (-1)) (fun st_5 => some st_5)))))
set_option maxHeartbeats 1000000 in
theorem mo_X6_init_22 (h0 : Nat)   (s0 : Option Nat) (gs : CS) (st' : CS) (hf : fX6_init_22 h0 s0 gs = some st') : Mo gs st' := by
  unfold fX6_init_22 at hf
  have hm : Mo gs gs := Mo.rf
  obtain ⟨hk_1, hf⟩ := gd_some hf
  obtain ⟨st_2, est_2, hf⟩ := nam_some hf
  have hm := hm.wP est_2
  obtain ⟨st_3, est_3, hf⟩ := nam_some hf
  have hm := hm.wI est_3
  obtain ⟨st_4, est_4, hf⟩ := nam_some hf
  have hm := hm.wI est_4
  obtain ⟨st_5, est_5, hf⟩ := nam_some hf
  have hm := hm.wI est_5
  have e2 := Option.some.inj hf
  exact e2 ▸ hm
noncomputable def fX6_init_18 (h0 : Nat)  (s0 : Option Nat) (gs : CS) : Option (CS) := ono s0 (fun a_6 => gd (qk gs a_6 = 2) (bnv (fJ4_init_da8c8 a_6 gs) (fun st_9 => fX6_init_22 h0 s0 st_9)))
set_option maxHeartbeats 1000000 in
theorem mo_X6_init_18 (h0 : Nat)   (s0 : Option Nat) (gs : CS) (st' : CS) (hf : fX6_init_18 h0 s0 gs = some st') : Mo gs st' := by
  unfold fX6_init_18 at hf
  have hm : Mo gs gs := Mo.rf
  obtain ⟨a_6, ha_7, hf⟩ := ono_some hf
  obtain ⟨hk_8, hf⟩ := gd_some hf
  obtain ⟨st_9, hc_10, hf⟩ := bnv_some hf
  have hm := hm.tr (mo_J4_init_da8c8 a_6 _ _ hc_10)
  exact hm.tr (mo_X6_init_22 h0 s0 st_9 _ hf)
noncomputable def fX6_init_4 (h0 : Nat)  (l1 : Option Nat) (l2 : Option Nat) (gs : CS) : Option (CS) := gd (qk gs h0 = 9) (nam (wP gs h0 0 l1) (fun st_13 => nam (wP st_13 h0 1 l2) (fun st_14 => nam (wN st_14 2 0 4) (fun st_15 => fX6_init_18 h0 (some (qn st_14)) st_15))))
set_option maxHeartbeats 1000000 in
theorem mo_X6_init_4 (h0 : Nat)   (l1 : Option Nat) (l2 : Option Nat) (gs : CS) (st' : CS) (hf : fX6_init_4 h0 l1 l2 gs = some st') : Mo gs st' := by
  unfold fX6_init_4 at hf
  have hm : Mo gs gs := Mo.rf
  obtain ⟨hk_12, hf⟩ := gd_some hf
  obtain ⟨st_13, est_13, hf⟩ := nam_some hf
  have hm := hm.wP est_13
  obtain ⟨st_14, est_14, hf⟩ := nam_some hf
  have hm := hm.wP est_14
  obtain ⟨st_15, est_15, hf⟩ := nam_some hf
  have hm := hm.wN est_15
  exact hm.tr (mo_X6_init_18 h0 (some (qn st_14)) st_15 _ hf)
noncomputable def fX6_init (h0 : Nat) (p0 : Option Nat) (p1 : Option Nat) (st : CS) : Option (CS) := fX6_init_4 h0 p0 p1 st
set_option maxHeartbeats 1000000 in
theorem mo_X6_init (h0 : Nat) (p0 : Option Nat) (p1 : Option Nat) (st : CS) (st' : CS) (hf : fX6_init h0 p0 p1 st = some st') : Mo st st' := by
  unfold fX6_init at hf
  have hm : Mo st st := Mo.rf
  exact hm.tr (mo_X6_init_4 h0 p0 p1 st _ hf)
def wq_X6_init : List Cond := .code yX6_init cX6_init 3 none :: (([.methodLink RX6 3 objectInit, .instanceMethod objectInit, .code objectInit ⟨#[0xb1]⟩ 1 none, .fieldLink RX6 9 "RecordBench$TextReader" "tape" "LRecordBench$Row;", .fieldLink RX6 15 "RecordBench$TextReader" "makes" "[LRecordBench$Make;", .fieldLink RX6 22 "RecordBench$TextReader" "letters" "Ljava/lang/StringBuilder;", .fieldLink RX6 26 "RecordBench$TextReader" "pos" "I", .fieldLink RX6 30 "RecordBench$TextReader" "fault" "I", .fieldLink RX6 33 "RecordBench$TextReader" "place" "I", .instanceMethod yJ4_init_da8c8, .initialized RJ4, .methodLink RX6 21 yJ4_init_da8c8, .classLink RX6 19 RJ4, .instantiable RJ4 4, .code yJ4_init_da8c8 cJ4_init_da8c8 1 none, .instanceMethod yJ5_init_d00df, .initialized RJ5, .methodLink RJ4 1 yJ5_init_d00df, .code yJ5_init_d00df cJ5_init_d00df 2 none, .methodLink RJ5 3 objectInit, .fieldLink RJ5 18 "java/lang/String" "COMPACT_STRINGS" "Z", .fieldLink RJ5 15 "java/lang/AbstractStringBuilder" "value" "[B", .fieldLink RJ5 22 "java/lang/AbstractStringBuilder" "coder" "B", .arrayClass .byte] : List Cond) ++ wsX60 ++ wsJ40)
theorem gs_wq_X6_init_wsJ40 : GoodIn wq_X6_init wsJ40 := fun w h => ⟨List.mem_cons_of_mem _ (List.mem_append_right _ h), (gt_wsJ40 w h).2⟩
set_option maxRecDepth 20000 in
theorem gq_X6_init_J4_init_da8c8_21 : GoodIn wq_X6_init (wq_J4_init_da8c8) := (goodIn_ca (goodIn_r _ [15, 16, 17, 18, 19, 20, 2, 3, 21, 22, 23, 24] rfl rfl) gs_wq_X6_init_wsJ40)
set_option maxHeartbeats 4000000 in
set_option maxRecDepth 100000 in
theorem c_X6_init (l : Launch) (dC : Nat → ClassId) (dI : Nat → Nat → Nat) (ka ad : Nat → Nat) (ct : Nat → ClassId) (h0 : Nat) (p0 : Option Nat) (p1 : Option Nat) (st st' : CS) (hf : fX6_init h0 p0 p1 st = some st') (sz : Nat) : Met l yX6_init wq_X6_init ({ frames := 3, cells := (qn st' - qn st), slots := (qs st' - qs st), locals := 65 }) (va_Pc [.ref (ad h0), va_rf (Option.map ad p0), va_rf (Option.map ad p1)] (PrC (dC, dI) ct ka ad st sz)) (va_Qv (fun (_ : Unit) => True) (fun _ => CB (dC, dI) ct ka ad st' (aC ad st sz)) (aC ad st sz)) (qn st' - qn st) (qs st' - qs st) (aC ad st sz) := by
  refine Met.ofW (cc := cX6_init) (maxL := 3) (ret := none) (by decide) rfl ?_
  intro p e s m args below meth c s₁ B hml hv
  obtain ⟨rfl, hsz, hw0, hK, hN, hZ, hC, hR, hL, hw1, hw2⟩ := hv
  have hx := B.exec
  have hb := B.bytes
  have hr := B.returns
  have hts := atoms_spec (ws := wq_X6_init) B.pre
  have hown : s.vm.findClass RX6 = some m.cls := findClass_of_methodNamed B.named
  have hin : meth.name = "<init>" := (name_of_methodNamed B.named B.method).1
  have iRX6 : ∀ w ∈ u_ws RX6 TX6 6, w ∈ wq_X6_init := fun w h => List.mem_cons_of_mem _ (List.mem_append_left _ (List.mem_append_right _ h))
  have iRJ4 : ∀ w ∈ u_ws RJ4 TJ4 4, w ∈ wq_X6_init := fun w h => List.mem_cons_of_mem _ (List.mem_append_right _ h)
  subst hsz
  have hp : Cp (dC, dI) ka ad ct (aC ad st s.heap.size) s.heap st s.heap [] := ⟨fun i a b => ⟨hw0 i a b, Or.inl ⟨i, a, b, rfl⟩⟩, va_S.rf, hw1, hw2⟩
  generalize hAe : aC ad st s.heap.size = A at hp hZ hC ⊢
  have hA : ∀ q : Nat, s.heap.size ≤ q → A q := fun q h => by rw [← hAe]; exact Or.inr h
  have hl := lv_entry ([.ref (ad h0), va_rf (Option.map ad p0), va_rf (Option.map ad p1)]) (n := 3) (by simp [lg_sl, rf_cat, vc_i, vc_l, vc_r, vc_n])
  rw [lg_entry_eq]
  generalize (lg_sl ([.ref (ad h0), va_rf (Option.map ad p0), va_rf (Option.map ad p1)]) ++ List.replicate (3 - (lg_sl ([.ref (ad h0), va_rf (Option.map ad p0), va_rf (Option.map ad p1)])).length) Slot.unset).toArray = ls at hl ⊢
  have hl : lv_has ls 3 [(0, .ref (ad h0)), (1, va_rf (Option.map ad p0)), (2, va_rf (Option.map ad p1))] := by simpa [lv_args, rf_cat, vc_i, vc_l, vc_r, vc_n] using hl
  have hm : Mo st st := Mo.rf
  refine W.widen (k := qn st - qn st) (n := qs st - qs st) (Nat.zero_le _) (Nat.zero_le _) ?_
  refine W_blkA (fun (u : (Option Nat) × CS) H locs ls => match u with | (s0, gs) => fX6_init_22 h0 s0 gs = some st' ∧ Cp (dC, dI) ka ad ct A s.heap gs H locs ∧ lv_has ls 3 [(0, .ref (ad h0))] ∧ Mo st gs) (fun (u : (Option Nat) × CS) ls => match u with | (s0, gs) => F0 m 22 ls [va_rf (Option.map ad s0), .ref (ad h0)]) (fun (u : (Option Nat) × CS) => match u with | (s0, gs) => qn gs - qn st) (fun (u : (Option Nat) × CS) => match u with | (s0, gs) => qs gs - qs st) ?_ (fun J22 => ?_)
  · intro u H locs ls hu
    obtain ⟨s0, gs⟩ := u
    obtain ⟨hf, hp, hl, hm⟩ := hu
    show W p l e _ s m _ below meth c _ _ (qn gs - qn st) (qs gs - qs st) _ (F0 m 22 ls [va_rf (Option.map ad s0), .ref (ad h0)])
    unfold fX6_init_22 at hf
    obtain ⟨hk_1, hf⟩ := gd_some hf
    refine q_pFp (ci := 8) (C := RX6) (T := TX6) (N := 6) (k := 2) (v := s0) (ty := (.object "java/lang/StringBuilder")) hx hb hts iRX6 tyX6 tyX6_ok nmX6 hown hK hp (hp.2.2.1.ge hk_1 (by decide) (by decide) (by decide)) hk_1 (by decide) rfl rfl (by decide) rfl (hts (.fieldLink RX6 22 "RecordBench$TextReader" "letters" "Ljava/lang/StringBuilder;") (by decide +kernel)) (fun _ h9 => h9) rfl hin rfl (by decide +kernel) (rf_nar rfl _) dX6_init_22 (fun H locs hp => ?_)
    obtain ⟨st_2, est_2, hf⟩ := nam_some hf
    rw [← est_2] at hp
    have hm := hm.wP est_2
    refine W.widen (k := qn st_2 - qn st) (n := qs st_2 - qs st) (by rw [est_2]; exact Nat.le_refl _) (by rw [est_2]; exact Nat.le_refl _) ?_
    have hk_1 : qk st_2 h0 = 9 := by rw [est_2]; exact hk_1
    refine lv_aload_n hx hb dX6_init_25 rfl (lv_at hl 0 rfl) ?_
    refine lv_iconst (v := 0) hx hb dX6_init_26 (by decide) ?_
    refine q_pi (ci := 8) (C := RX6) (T := TX6) (N := 6) (k := 3) (v := 0) (ty := .int) hx hb hts iRX6 tyX6 tyX6_ok nmX6 hown hK hp hk_1 (by decide) rfl rfl (by decide) rfl (Or.inl (hts (.fieldLink RX6 26 "RecordBench$TextReader" "pos" "I") (by decide +kernel))) (fun _ h9 => h9) rfl (by decide +kernel) rfl rfl dX6_init_27 (fun H locs hp => ?_)
    obtain ⟨st_3, est_3, hf⟩ := nam_some hf
    rw [← est_3] at hp
    have hm := hm.wI est_3
    refine W.widen (k := qn st_3 - qn st) (n := qs st_3 - qs st) (by rw [est_3]; exact Nat.le_refl _) (by rw [est_3]; exact Nat.le_refl _) ?_
    have hk_1 : qk st_3 h0 = 9 := by rw [est_3]; exact hk_1
    refine lv_aload_n hx hb dX6_init_30 rfl (lv_at hl 0 rfl) ?_
    refine lv_iconst (v := 0) hx hb dX6_init_31 (by decide) ?_
    refine q_pi (ci := 8) (C := RX6) (T := TX6) (N := 6) (k := 4) (v := 0) (ty := .int) hx hb hts iRX6 tyX6 tyX6_ok nmX6 hown hK hp hk_1 (by decide) rfl rfl (by decide) rfl (Or.inl (hts (.fieldLink RX6 30 "RecordBench$TextReader" "fault" "I") (by decide +kernel))) (fun _ h9 => h9) rfl (by decide +kernel) rfl rfl dX6_init_32 (fun H locs hp => ?_)
    obtain ⟨st_4, est_4, hf⟩ := nam_some hf
    rw [← est_4] at hp
    have hm := hm.wI est_4
    refine W.widen (k := qn st_4 - qn st) (n := qs st_4 - qs st) (by rw [est_4]; exact Nat.le_refl _) (by rw [est_4]; exact Nat.le_refl _) ?_
    have hk_1 : qk st_4 h0 = 9 := by rw [est_4]; exact hk_1
    refine lv_aload_n hx hb dX6_init_35 rfl (lv_at hl 0 rfl) ?_
    refine lv_iconst (v := (-1)) hx hb dX6_init_36 (by decide) ?_
    refine q_pi (ci := 8) (C := RX6) (T := TX6) (N := 6) (k := 5) (v := (-1)) (ty := .int) hx hb hts iRX6 tyX6 tyX6_ok nmX6 hown hK hp hk_1 (by decide) rfl rfl (by decide) rfl (Or.inl (hts (.fieldLink RX6 33 "RecordBench$TextReader" "place" "I") (by decide +kernel))) (fun _ h9 => h9) rfl (by decide +kernel) rfl rfl dX6_init_37 (fun H locs hp => ?_)
    obtain ⟨st_5, est_5, hf⟩ := nam_some hf
    rw [← est_5] at hp
    have hm := hm.wI est_5
    refine W.widen (k := qn st_5 - qn st) (n := qs st_5 - qs st) (by rw [est_5]; exact Nat.le_refl _) (by rw [est_5]; exact Nat.le_refl _) ?_
    have hk_1 : qk st_5 h0 = 9 := by rw [est_5]; exact hk_1
    have e2 := Option.some.inj hf
    refine W.widen (k := qn st' - qn st) (n := qs st' - qs st) (by rw [e2]; exact Nat.le_refl _) (by rw [e2]; exact Nat.le_refl _) ?_
    exact W.vret hx hb hr (fun t ht hW => ⟨⟨(), rfl, trivial, Cp.end e2 hp ht⟩, hp.2.1.F ht⟩) hp.2.1.2.2 dX6_init_40
  refine W_blkA (fun (u : (Option Nat) × CS) H locs ls => match u with | (s0, gs) => fX6_init_18 h0 s0 gs = some st' ∧ Cp (dC, dI) ka ad ct A s.heap gs H locs ∧ lv_has ls 3 [(0, .ref (ad h0))] ∧ Mo st gs) (fun (u : (Option Nat) × CS) ls => match u with | (s0, gs) => F0 m 18 ls [va_rf (Option.map ad s0), .ref (ad h0)]) (fun (u : (Option Nat) × CS) => match u with | (s0, gs) => qn gs - qn st) (fun (u : (Option Nat) × CS) => match u with | (s0, gs) => qs gs - qs st) ?_ (fun J18 => ?_)
  · intro u H locs ls hu
    obtain ⟨s0, gs⟩ := u
    obtain ⟨hf, hp, hl, hm⟩ := hu
    show W p l e _ s m _ below meth c _ _ (qn gs - qn st) (qs gs - qs st) _ (F0 m 18 ls [va_rf (Option.map ad s0), .ref (ad h0)])
    unfold fX6_init_18 at hf
    refine lv_dup hx hb dX6_init_18 (rf_cat _) ?_
    obtain ⟨a_6, ha_7, hf⟩ := ono_some hf
    refine o_at ha_7 ?_
    obtain ⟨hk_8, hf⟩ := gd_some hf
    obtain ⟨st_9, hc_10, hf⟩ := bnv_some hf
    have lthk_8 := hp.2.2.1.lt (i := a_6) (by rw [hk_8]; decide)
    have hmc := (mo_J4_init_da8c8 a_6 _ _ hc_10)
    have hmr := mo_X6_init_22 h0 _ _ _ hf
    refine q_cv hp hA (va_runI (As := []) (rest := [va_rf (Option.map ad s0), .ref (ad h0)]) ⟨hx, hb, hml, hown, hts⟩ (c_J4_init_da8c8 l dC dI ka ad ct a_6 _ _ hc_10 _) (cwI 0 hts gq_X6_init_J4_init_da8c8_21 rfl rfl rfl (hts (.initialized RJ4) (by decide +kernel)) (hts (.methodLink RX6 21 yJ4_init_da8c8) (by decide +kernel)) (hts (.instanceMethod yJ4_init_da8c8) (by decide +kernel)) rfl (by decide +kernel) ⟨Nat.le_of_ble_eq_true rfl, Nat.le_of_ble_eq_true rfl⟩) ⟨PrC.blind _, q_pre hp hK hN hZ hC hR hL hA⟩ rfl rfl hl.1 rfl (lv_room (by simp [rf_cat, vc_i, vc_l, vc_r, vc_n])) dX6_init_19 ⟨by show qn gs - qn st + (qn st_9 - qn gs) ≤ qn st' - qn st; have := hmr.1; have := hm.1; have := hmc.1; omega, by show qs gs - qs st + (qs st_9 - qs gs) ≤ qs st' - qs st; have := hmr.2.1; have := hm.2.1; have := hmc.2.1; omega⟩) (fun H locs hp => ?_)
    have hk_8 : qk st_9 a_6 = 2 := ((mo_J4_init_da8c8 a_6 _ _ hc_10).2.2 _ lthk_8).1.trans hk_8
    refine W.widen (k := qn st_9 - qn st) (n := qs st_9 - qs st) (by have := hm.1; have := hmc.1; omega) (by have := hm.2.1; have := hmc.2.1; omega) ?_
    have hm := hm.tr hmc
    exact J22 (s0, st_9) _ _ _ ⟨hf, hp, (lv_sub hl [0] rfl), hm⟩
  refine W_blkA (fun (u : (Option Nat) × (Option Nat) × CS) H locs ls => match u with | (l1, l2, gs) => fX6_init_4 h0 l1 l2 gs = some st' ∧ Cp (dC, dI) ka ad ct A s.heap gs H locs ∧ lv_has ls 3 [(0, .ref (ad h0)), (1, va_rf (Option.map ad l1)), (2, va_rf (Option.map ad l2))] ∧ Mo st gs) (fun (u : (Option Nat) × (Option Nat) × CS) ls => match u with | (l1, l2, gs) => F0 m 4 ls []) (fun (u : (Option Nat) × (Option Nat) × CS) => match u with | (l1, l2, gs) => qn gs - qn st) (fun (u : (Option Nat) × (Option Nat) × CS) => match u with | (l1, l2, gs) => qs gs - qs st) ?_ (fun J4 => ?_)
  · intro u H locs ls hu
    obtain ⟨l1, l2, gs⟩ := u
    obtain ⟨hf, hp, hl, hm⟩ := hu
    show W p l e _ s m _ below meth c _ _ (qn gs - qn st) (qs gs - qs st) _ (F0 m 4 ls [])
    unfold fX6_init_4 at hf
    refine lv_aload_n hx hb dX6_init_4 rfl (lv_at hl 0 rfl) ?_
    refine o_aload_n hx hb dX6_init_5 rfl (lv_at hl 1 rfl) ?_
    obtain ⟨hk_12, hf⟩ := gd_some hf
    refine q_pFp (ci := 8) (C := RX6) (T := TX6) (N := 6) (k := 0) (v := l1) (ty := (.object "RecordBench$Row")) hx hb hts iRX6 tyX6 tyX6_ok nmX6 hown hK hp (hp.2.2.1.ge hk_12 (by decide) (by decide) (by decide)) hk_12 (by decide) rfl rfl (by decide) rfl (hts (.fieldLink RX6 9 "RecordBench$TextReader" "tape" "LRecordBench$Row;") (by decide +kernel)) (fun _ h9 => h9) rfl hin rfl (by decide +kernel) (rf_nar rfl _) dX6_init_6 (fun H locs hp => ?_)
    obtain ⟨st_13, est_13, hf⟩ := nam_some hf
    rw [← est_13] at hp
    have hm := hm.wP est_13
    refine W.widen (k := qn st_13 - qn st) (n := qs st_13 - qs st) (by rw [est_13]; exact Nat.le_refl _) (by rw [est_13]; exact Nat.le_refl _) ?_
    have hk_12 : qk st_13 h0 = 9 := by rw [est_13]; exact hk_12
    refine lv_aload_n hx hb dX6_init_9 rfl (lv_at hl 0 rfl) ?_
    refine o_aload_n hx hb dX6_init_10 rfl (lv_at hl 2 rfl) ?_
    refine q_pFp (ci := 8) (C := RX6) (T := TX6) (N := 6) (k := 1) (v := l2) (ty := (.array (.object "RecordBench$Make"))) hx hb hts iRX6 tyX6 tyX6_ok nmX6 hown hK hp (hp.2.2.1.ge hk_12 (by decide) (by decide) (by decide)) hk_12 (by decide) rfl rfl (by decide) rfl (hts (.fieldLink RX6 15 "RecordBench$TextReader" "makes" "[LRecordBench$Make;") (by decide +kernel)) (fun _ h9 => h9) rfl hin rfl (by decide +kernel) (rf_narA rfl _) dX6_init_11 (fun H locs hp => ?_)
    obtain ⟨st_14, est_14, hf⟩ := nam_some hf
    rw [← est_14] at hp
    have hm := hm.wP est_14
    refine W.widen (k := qn st_14 - qn st) (n := qs st_14 - qs st) (by rw [est_14]; exact Nat.le_refl _) (by rw [est_14]; exact Nat.le_refl _) ?_
    have hk_12 : qk st_14 h0 = 9 := by rw [est_14]; exact hk_12
    refine lv_aload_n hx hb dX6_init_14 rfl (lv_at hl 0 rfl) ?_
    have lthk_12 := hp.2.2.1.lt (i := h0) (by rw [hk_12]; decide)
    obtain ⟨st_15, est_15, hf⟩ := nam_some hf
    have hmr := mo_X6_init_18 h0 _ _ _ hf
    refine q_new (ci := 1) (C := RJ4) (T := TJ4) (N := 4) hx hb hts iRJ4 tyJ4 tyJ4_ok hown (hts (.classLink RX6 19 RJ4) (by decide +kernel)) (hts (.instantiable RJ4 4) (by decide +kernel)) (hts (.initialized RJ4) (by decide +kernel)) hK hp hA (by decide) rfl rfl dvJ4 (by show qn st_14 - qn st + 1 ≤ qn st' - qn st; have := hmr.1; have := hm.1; have := (wN_n est_15).1; omega) (by show qs st_14 - qs st + 4 ≤ qs st' - qs st; have := hmr.2.1; have := hm.2.1; have := (wN_n est_15).2; omega) dX6_init_15 (fun H hp => ?_)
    rw [← est_15] at hp
    have hk_12 : qk st_15 h0 = 9 := by rw [est_15]; exact (va_up_ne _ _ (Nat.ne_of_lt lthk_12)).trans hk_12
    refine W.widen (k := qn st_15 - qn st) (n := qs st_15 - qs st) (by have := hm.1; have := (wN_n est_15).1; omega) (by have := hm.2.1; have := (wN_n est_15).2; omega) ?_
    have hm := hm.wN est_15
    exact J18 ((some (qn st_14)), st_15) _ _ _ ⟨hf, hp, (lv_sub hl [0] rfl), hm⟩
  unfold fX6_init at hf
  refine lv_aload_n hx hb dX6_init_0 rfl (lv_at hl 0 rfl) ?_
  refine W.objInit hx hb hown (hts (.methodLink RX6 3 objectInit) (by decide +kernel)) (hts (.instanceMethod objectInit) (by decide +kernel)) (hts (.code objectInit ⟨#[0xb1]⟩ 1 none) (by decide +kernel)) rfl (by rw [hml]; exact hl.1) rfl dX6_init_1 (Nat.le_of_ble_eq_true rfl) (Nat.le_of_ble_eq_true rfl) ?_
  refine W.eq (g2 := F0 m 4 ls []) rfl ?_
  exact J4 (p0, p1, st) _ _ _ ⟨hf, hp, (lv_sub hl [0, 1, 2] rfl), hm⟩
noncomputable def fX3_init_38 (h0 : Nat) (k20 : Int32 → CS → Option (CS)) (l2 : Int32) (s0 : Option Nat) (s1 : Int32) (s2 : Option Nat) (gs : CS) : Option (CS) := ono s0 (fun a_1 => gd (qk gs a_1 = 5) (ono s2 (fun a_4 => gd (qk gs a_4 = 25) (gd (vp_in s1 (ql gs a_4)) (nam (wP gs a_4 s1.toNatClampNeg (some a_1)) (fun st_8 => nam (l2 + 1) (fun v_9 => k20 v_9 st_8)))))))
set_option maxHeartbeats 1000000 in
theorem mo_X3_init_38 (h0 : Nat) (k20 : Int32 → CS → Option (CS)) (hk20 : ∀ (l2 : Int32) (gs : CS) (st' : CS), k20 l2 gs = some st' → Mo gs st') (l2 : Int32) (s0 : Option Nat) (s1 : Int32) (s2 : Option Nat) (gs : CS) (st' : CS) (hf : fX3_init_38 h0 k20 l2 s0 s1 s2 gs = some st') : Mo gs st' := by
  unfold fX3_init_38 at hf
  have hm : Mo gs gs := Mo.rf
  obtain ⟨a_1, ha_2, hf⟩ := ono_some hf
  obtain ⟨hk_3, hf⟩ := gd_some hf
  obtain ⟨a_4, ha_5, hf⟩ := ono_some hf
  obtain ⟨hk_6, hf⟩ := gd_some hf
  obtain ⟨g_7, hf⟩ := gd_some hf
  obtain ⟨st_8, est_8, hf⟩ := nam_some hf
  have hm := hm.wP est_8
  obtain ⟨v_9, ev_9, hf⟩ := nam_some hf
  exact hm.tr (hk20 v_9 st_8 _ hf)
noncomputable def fX3_init_34 (h0 : Nat) (k20 : Int32 → CS → Option (CS)) (l2 : Int32) (s0 : Option Nat) (s1 : Int32) (s2 : Option Nat) (gs : CS) : Option (CS) := ono s0 (fun a_10 => gd (qk gs a_10 = 5) (bnv (fX2_init a_10 gs) (fun st_13 => fX3_init_38 h0 k20 l2 s0 s1 s2 st_13)))
set_option maxHeartbeats 1000000 in
theorem mo_X3_init_34 (h0 : Nat) (k20 : Int32 → CS → Option (CS)) (hk20 : ∀ (l2 : Int32) (gs : CS) (st' : CS), k20 l2 gs = some st' → Mo gs st') (l2 : Int32) (s0 : Option Nat) (s1 : Int32) (s2 : Option Nat) (gs : CS) (st' : CS) (hf : fX3_init_34 h0 k20 l2 s0 s1 s2 gs = some st') : Mo gs st' := by
  unfold fX3_init_34 at hf
  have hm : Mo gs gs := Mo.rf
  obtain ⟨a_10, ha_11, hf⟩ := ono_some hf
  obtain ⟨hk_12, hf⟩ := gd_some hf
  obtain ⟨st_13, hc_14, hf⟩ := bnv_some hf
  have hm := hm.ke (mo_X2_init a_10 _ _ hc_14)
  exact hm.tr (mo_X3_init_38 h0 k20 hk20 l2 s0 s1 s2 st_13 _ hf)
noncomputable def fX3_init_20 (h0 : Nat)  : Nat → Int32 → CS → Option (CS)
  | 0 => fun _ _ => none
  | n + 1 => fun l2 gs => pif (8 ≤ l2) (gd (qk gs h0 = 6) (nam (wI gs h0 2 0) (fun st_18 => nam (wI st_18 h0 3 (-1)) (fun st_19 => some st_19)))) (gd (qk gs h0 = 6) (nam (wN gs 5 0 8) (fun st_21 => fX3_init_34 h0 (fX3_init_20 h0 n) l2 (some (qn gs)) l2 (qP gs h0 1) st_21)))
theorem fX3_init_20_z (h0 : Nat)  (l2 : Int32) (gs : CS) : fX3_init_20 h0 0 l2 gs = none := rfl
theorem fX3_init_20_s (h0 : Nat)  (n : Nat) (l2 : Int32) (gs : CS) : fX3_init_20 h0 (n + 1) l2 gs = pif (8 ≤ l2) (gd (qk gs h0 = 6) (nam (wI gs h0 2 0) (fun st_18 => nam (wI st_18 h0 3 (-1)) (fun st_19 => some st_19)))) (gd (qk gs h0 = 6) (nam (wN gs 5 0 8) (fun st_21 => fX3_init_34 h0 (fX3_init_20 h0 n) l2 (some (qn gs)) l2 (qP gs h0 1) st_21))) := rfl
set_option maxHeartbeats 1000000 in
theorem mo_X3_init_20 (h0 : Nat)   : ∀ (n : Nat) (l2 : Int32) (gs : CS) (st' : CS), fX3_init_20 h0 n l2 gs = some st' → Mo gs st' := by
  intro n
  induction n with
  | zero =>
    intro l2 gs st' hf
    rw [fX3_init_20_z] at hf
    cases hf
  | succ n ih =>
    intro l2 gs st' hf
    rw [fX3_init_20_s] at hf
    have hm : Mo gs gs := Mo.rf
    rcases pif_or hf with ⟨c_16, hf⟩ | ⟨c_16, hf⟩
    · obtain ⟨hk_17, hf⟩ := gd_some hf
      obtain ⟨st_18, est_18, hf⟩ := nam_some hf
      have hm := hm.wI est_18
      obtain ⟨st_19, est_19, hf⟩ := nam_some hf
      have hm := hm.wI est_19
      have e2 := Option.some.inj hf
      exact e2 ▸ hm
    · obtain ⟨hk_20, hf⟩ := gd_some hf
      obtain ⟨st_21, est_21, hf⟩ := nam_some hf
      have hm := hm.wN est_21
      exact hm.tr (mo_X3_init_34 h0 (fX3_init_20 h0 n) ih l2 (some (qn gs)) l2 (qP gs h0 1) st_21 _ hf)
noncomputable def fX3_init_15 (h0 : Nat)  (s0 : Option Nat) (gs : CS) : Option (CS) := gd (qk gs h0 = 6) (nam (wP gs h0 1 s0) (fun st_23 => fX3_init_20 h0 fuel 0 st_23))
set_option maxHeartbeats 1000000 in
theorem mo_X3_init_15 (h0 : Nat)   (s0 : Option Nat) (gs : CS) (st' : CS) (hf : fX3_init_15 h0 s0 gs = some st') : Mo gs st' := by
  unfold fX3_init_15 at hf
  have hm : Mo gs gs := Mo.rf
  obtain ⟨hk_22, hf⟩ := gd_some hf
  obtain ⟨st_23, est_23, hf⟩ := nam_some hf
  have hm := hm.wP est_23
  exact hm.tr (mo_X3_init_20 h0 fuel 0 st_23 _ hf)
noncomputable def fX3_init_4 (h0 : Nat)  (l1 : Option Nat) (gs : CS) : Option (CS) := gd (qk gs h0 = 6) (nam (wP gs h0 0 l1) (fun st_25 => gd (¬ (8 : Int32) < 0 ∧ (8 : Int32).toNatClampNeg * 4 ≤ 536870912) (nam (wN st_25 25 (8 : Int32).toNatClampNeg (8 : Int32).toNatClampNeg) (fun st_27 => fX3_init_15 h0 (some (qn st_25)) st_27))))
set_option maxHeartbeats 1000000 in
theorem mo_X3_init_4 (h0 : Nat)   (l1 : Option Nat) (gs : CS) (st' : CS) (hf : fX3_init_4 h0 l1 gs = some st') : Mo gs st' := by
  unfold fX3_init_4 at hf
  have hm : Mo gs gs := Mo.rf
  obtain ⟨hk_24, hf⟩ := gd_some hf
  obtain ⟨st_25, est_25, hf⟩ := nam_some hf
  have hm := hm.wP est_25
  obtain ⟨g_26, hf⟩ := gd_some hf
  obtain ⟨st_27, est_27, hf⟩ := nam_some hf
  have hm := hm.wN est_27
  exact hm.tr (mo_X3_init_15 h0 (some (qn st_25)) st_27 _ hf)
noncomputable def fX3_init (h0 : Nat) (p0 : Option Nat) (st : CS) : Option (CS) := fX3_init_4 h0 p0 st
set_option maxHeartbeats 1000000 in
theorem mo_X3_init (h0 : Nat) (p0 : Option Nat) (st : CS) (st' : CS) (hf : fX3_init h0 p0 st = some st') : Mo st st' := by
  unfold fX3_init at hf
  have hm : Mo st st := Mo.rf
  exact hm.tr (mo_X3_init_4 h0 p0 st _ hf)
def wq_X3_init : List Cond := .code yX3_init cX3_init 3 none :: (([.methodLink RX3 3 objectInit, .instanceMethod objectInit, .code objectInit ⟨#[0xb1]⟩ 1 none, .fieldLink RX3 9 "RecordBench$RecordReader" "makes" "[LRecordBench$Make;", .fieldLink RX3 17 "RecordBench$RecordReader" "pieces" "[LRecordBench$Piece;", .fieldLink RX3 22 "RecordBench$RecordReader" "fault" "I", .fieldLink RX3 26 "RecordBench$RecordReader" "place" "I", .instanceMethod yX2_init, .initialized RX2, .classLink RX3 15 RX2, .instantiable RX2 8, .code yX2_init cX2_init 1 none, .methodLink RX2 3 objectInit, .fieldLink RX2 9 "RecordBench$Piece" "number" "I", .fieldLink RX2 15 "RecordBench$Piece" "withLength" "Z", .fieldLink RX2 19 "RecordBench$Piece" "raw" "J", .fieldLink RX2 23 "RecordBench$Piece" "body" "I", .fieldLink RX2 26 "RecordBench$Piece" "end" "I", .fieldLink RX2 29 "RecordBench$Piece" "fault" "I", .fieldLink RX2 32 "RecordBench$Piece" "pos" "I", .fieldLink RX2 35 "RecordBench$Piece" "broken" "Z"] : List Cond) ++ wsX30 ++ wsX20)
theorem gs_wq_X3_init_wsX20 : GoodIn wq_X3_init wsX20 := fun w h => ⟨List.mem_cons_of_mem _ (List.mem_append_right _ h), (gt_wsX20 w h).2⟩
set_option maxRecDepth 20000 in
theorem gq_X3_init_X2_init_21 : GoodIn wq_X3_init (wq_X2_init) := (goodIn_ca (goodIn_r _ [12, 13, 2, 3, 14, 15, 16, 17, 18, 19, 20, 21] rfl rfl) gs_wq_X3_init_wsX20)
set_option maxHeartbeats 4000000 in
set_option maxRecDepth 100000 in
theorem c_X3_init (l : Launch) (dC : Nat → ClassId) (dI : Nat → Nat → Nat) (ka ad : Nat → Nat) (ct : Nat → ClassId) (h0 : Nat) (p0 : Option Nat) (st st' : CS) (hf : fX3_init h0 p0 st = some st') (sz : Nat) : Met l yX3_init wq_X3_init ({ frames := 2, cells := (qn st' - qn st), slots := (qs st' - qs st), locals := 40 }) (va_Pc [.ref (ad h0), va_rf (Option.map ad p0)] (PrC (dC, dI) ct ka ad st sz)) (va_Qv (fun (_ : Unit) => True) (fun _ => CB (dC, dI) ct ka ad st' (aC ad st sz)) (aC ad st sz)) (qn st' - qn st) (qs st' - qs st) (aC ad st sz) := by
  refine Met.ofW (cc := cX3_init) (maxL := 3) (ret := none) (by decide) rfl ?_
  intro p e s m args below meth c s₁ B hml hv
  obtain ⟨rfl, hsz, hw0, hK, hN, hZ, hC, hR, hL, hw1, hw2⟩ := hv
  have hx := B.exec
  have hb := B.bytes
  have hr := B.returns
  have hts := atoms_spec (ws := wq_X3_init) B.pre
  have hown : s.vm.findClass RX3 = some m.cls := findClass_of_methodNamed B.named
  have hin : meth.name = "<init>" := (name_of_methodNamed B.named B.method).1
  have iRX3 : ∀ w ∈ u_ws RX3 TX3 4, w ∈ wq_X3_init := fun w h => List.mem_cons_of_mem _ (List.mem_append_left _ (List.mem_append_right _ h))
  have iRX2 : ∀ w ∈ u_ws RX2 TX2 8, w ∈ wq_X3_init := fun w h => List.mem_cons_of_mem _ (List.mem_append_right _ h)
  subst hsz
  have hp : Cp (dC, dI) ka ad ct (aC ad st s.heap.size) s.heap st s.heap [] := ⟨fun i a b => ⟨hw0 i a b, Or.inl ⟨i, a, b, rfl⟩⟩, va_S.rf, hw1, hw2⟩
  generalize hAe : aC ad st s.heap.size = A at hp hZ hC ⊢
  have hA : ∀ q : Nat, s.heap.size ≤ q → A q := fun q h => by rw [← hAe]; exact Or.inr h
  have hl := lv_entry ([.ref (ad h0), va_rf (Option.map ad p0)]) (n := 3) (by simp [lg_sl, rf_cat, vc_i, vc_l, vc_r, vc_n])
  rw [lg_entry_eq]
  generalize (lg_sl ([.ref (ad h0), va_rf (Option.map ad p0)]) ++ List.replicate (3 - (lg_sl ([.ref (ad h0), va_rf (Option.map ad p0)])).length) Slot.unset).toArray = ls at hl ⊢
  have hl : lv_has ls 3 [(0, .ref (ad h0)), (1, va_rf (Option.map ad p0))] := by simpa [lv_args, rf_cat, vc_i, vc_l, vc_r, vc_n] using hl
  have hm : Mo st st := Mo.rf
  refine W.widen (k := qn st - qn st) (n := qs st - qs st) (Nat.zero_le _) (Nat.zero_le _) ?_
  refine W_lpA (fun n20 (u : Int32 × CS) H locs ls => match u with | (l2, gs) => fX3_init_20 h0 n20 l2 gs = some st' ∧ Cp (dC, dI) ka ad ct A s.heap gs H locs ∧ lv_has ls 3 [(0, .ref (ad h0)), (2, .int l2)] ∧ Mo st gs) (fun (u : Int32 × CS) ls => match u with | (l2, gs) => F0 m 20 ls []) (fun (u : Int32 × CS) => match u with | (l2, gs) => qn gs - qn st) (fun (u : Int32 × CS) => match u with | (l2, gs) => qs gs - qs st) ?_ ?_ (fun J20 => ?_)
  · intro u H locs ls hu
    obtain ⟨l2, gs⟩ := u
    obtain ⟨hf, hp, hl, hm⟩ := hu
    rw [fX3_init_20_z] at hf
    cases hf
  · intro n20 ih20 u H locs ls hu
    obtain ⟨l2, gs⟩ := u
    obtain ⟨hf, hp, hl, hm⟩ := hu
    show W p l e _ s m _ below meth c _ _ (qn gs - qn st) (qs gs - qs st) _ (F0 m 20 ls [])
    refine W_blkA (fun (u : Int32 × (Option Nat) × Int32 × (Option Nat) × CS) H locs ls => match u with | (l2, s0, s1, s2, gs) => fX3_init_38 h0 (fX3_init_20 h0 n20) l2 s0 s1 s2 gs = some st' ∧ Cp (dC, dI) ka ad ct A s.heap gs H locs ∧ lv_has ls 3 [(0, .ref (ad h0)), (2, .int l2)] ∧ Mo st gs) (fun (u : Int32 × (Option Nat) × Int32 × (Option Nat) × CS) ls => match u with | (l2, s0, s1, s2, gs) => F0 m 38 ls [va_rf (Option.map ad s0), .int s1, va_rf (Option.map ad s2)]) (fun (u : Int32 × (Option Nat) × Int32 × (Option Nat) × CS) => match u with | (l2, s0, s1, s2, gs) => qn gs - qn st) (fun (u : Int32 × (Option Nat) × Int32 × (Option Nat) × CS) => match u with | (l2, s0, s1, s2, gs) => qs gs - qs st) ?_ (fun J38 => ?_)
    · intro u H locs ls hu
      obtain ⟨l2, s0, s1, s2, gs⟩ := u
      obtain ⟨hf, hp, hl, hm⟩ := hu
      show W p l e _ s m _ below meth c _ _ (qn gs - qn st) (qs gs - qs st) _ (F0 m 38 ls [va_rf (Option.map ad s0), .int s1, va_rf (Option.map ad s2)])
      unfold fX3_init_38 at hf
      obtain ⟨a_1, ha_2, hf⟩ := ono_some hf
      refine o_at ha_2 ?_
      obtain ⟨hk_3, hf⟩ := gd_some hf
      obtain ⟨a_4, ha_5, hf⟩ := ono_some hf
      refine o_at2 ha_5 ?_
      obtain ⟨hk_6, hf⟩ := gd_some hf
      obtain ⟨g_7, hf⟩ := gd_some hf
      refine q_sq (t0 := 4) (cj := 4) hx hb hK hp hk_6 (by decide) rfl hk_3 (by decide) (by decide) rfl g_7 dX3_init_38 (fun H locs hp => ?_)
      obtain ⟨st_8, est_8, hf⟩ := nam_some hf
      rw [← est_8] at hp
      have hm := hm.wP est_8
      refine W.widen (k := qn st_8 - qn st) (n := qs st_8 - qs st) (by rw [est_8]; exact Nat.le_refl _) (by rw [est_8]; exact Nat.le_refl _) ?_
      have hk_3 : qk st_8 a_1 = 5 := by rw [est_8]; exact hk_3
      have hk_6 : qk st_8 a_4 = 25 := by rw [est_8]; exact hk_6
      obtain ⟨v_9, ev_9, hf⟩ := nam_some hf
      refine lv_iinc (v := v_9) (lv' := [(2, .int v_9), (0, .ref (ad h0))]) hx hb dX3_init_39 hl (k := 1) rfl ev_9.symm (by decide) rfl (fun ls hl => ?_)
      refine lv_goto (tgt := 20) hx hb dX3_init_42 (by decide) ?_
      exact ih20 (v_9, st_8) _ _ _ ⟨hf, hp, (lv_sub hl [1, 0] rfl), hm⟩
    refine W_blkA (fun (u : Int32 × (Option Nat) × Int32 × (Option Nat) × CS) H locs ls => match u with | (l2, s0, s1, s2, gs) => fX3_init_34 h0 (fX3_init_20 h0 n20) l2 s0 s1 s2 gs = some st' ∧ Cp (dC, dI) ka ad ct A s.heap gs H locs ∧ lv_has ls 3 [(0, .ref (ad h0)), (2, .int l2)] ∧ Mo st gs) (fun (u : Int32 × (Option Nat) × Int32 × (Option Nat) × CS) ls => match u with | (l2, s0, s1, s2, gs) => F0 m 34 ls [va_rf (Option.map ad s0), .int s1, va_rf (Option.map ad s2)]) (fun (u : Int32 × (Option Nat) × Int32 × (Option Nat) × CS) => match u with | (l2, s0, s1, s2, gs) => qn gs - qn st) (fun (u : Int32 × (Option Nat) × Int32 × (Option Nat) × CS) => match u with | (l2, s0, s1, s2, gs) => qs gs - qs st) ?_ (fun J34 => ?_)
    · intro u H locs ls hu
      obtain ⟨l2, s0, s1, s2, gs⟩ := u
      obtain ⟨hf, hp, hl, hm⟩ := hu
      show W p l e _ s m _ below meth c _ _ (qn gs - qn st) (qs gs - qs st) _ (F0 m 34 ls [va_rf (Option.map ad s0), .int s1, va_rf (Option.map ad s2)])
      unfold fX3_init_34 at hf
      refine lv_dup hx hb dX3_init_34 (rf_cat _) ?_
      obtain ⟨a_10, ha_11, hf⟩ := ono_some hf
      refine o_at ha_11 ?_
      obtain ⟨hk_12, hf⟩ := gd_some hf
      obtain ⟨st_13, hc_14, hf⟩ := bnv_some hf
      have hmc := (mo_X2_init a_10 _ _ hc_14).mo
      have hmr := mo_X3_init_38 h0 (fX3_init_20 h0 n20) (mo_X3_init_20 h0 n20) _ _ _ _ _ _ hf
      refine q_cv hp hA (va_runIN (As := []) (rest := [va_rf (Option.map ad s0), .int s1, va_rf (Option.map ad s2)]) ⟨hx, hb, hml, hown, hts⟩ (c_X2_init l dC dI ka ad ct a_10 _ _ hc_14 _) ⟨va_cnB 0 hts gq_X3_init_X2_init_21 rfl rfl rfl (hN.1 (.methodLinkNest RX3 21 yX2_init "RecordBench") (by decide +kernel)) (hts (.initialized RX2) (by decide +kernel)) (by decide +kernel) ⟨Nat.le_of_ble_eq_true rfl, Nat.le_of_ble_eq_true rfl⟩, rfl, (hts (.instanceMethod yX2_init) (by decide +kernel))⟩ ⟨PrC.blind _, q_pre hp hK hN hZ hC hR hL hA⟩ rfl rfl hl.1 rfl (lv_room (by simp [rf_cat, vc_i, vc_l, vc_r, vc_n])) dX3_init_35 ⟨by show qn gs - qn st + 0 ≤ qn st' - qn st; have := hmr.1; have := hm.1; have := hmc.1; omega, by show qs gs - qs st + 0 ≤ qs st' - qs st; have := hmr.2.1; have := hm.2.1; have := hmc.2.1; omega⟩) (fun H locs hp => ?_)
      have hk_12 : qk st_13 a_10 = 5 := by rw [(mo_X2_init a_10 _ _ hc_14).2.2.1]; exact hk_12
      refine W.widen (k := qn st_13 - qn st) (n := qs st_13 - qs st) (by have := hmc.1; omega) (by have := hmc.2.1; omega) ?_
      have hm := hm.tr hmc
      exact J38 (l2, s0, s1, s2, st_13) _ _ _ ⟨hf, hp, (lv_sub hl [0, 1] rfl), hm⟩
    rw [fX3_init_20_s] at hf
    refine lv_iload_n hx hb dX3_init_20 rfl (lv_at hl 1 rfl) ?_
    refine lv_bipush (v := 8) hx hb dX3_init_21 (by decide) ?_
    refine lv_icmp_ge (tgt := 45) hx hb dX3_init_23 (by decide) (fun c_16 => ?_) (fun c_16 => ?_)
    · have hf := pif_t c_16 hf
      refine lv_aload_n hx hb dX3_init_45 rfl (lv_at hl 0 rfl) ?_
      refine lv_iconst (v := 0) hx hb dX3_init_46 (by decide) ?_
      obtain ⟨hk_17, hf⟩ := gd_some hf
      refine q_pi (ci := 5) (C := RX3) (T := TX3) (N := 4) (k := 2) (v := 0) (ty := .int) hx hb hts iRX3 tyX3 tyX3_ok nmX3 hown hK hp hk_17 (by decide) rfl rfl (by decide) rfl (Or.inl (hts (.fieldLink RX3 22 "RecordBench$RecordReader" "fault" "I") (by decide +kernel))) (fun _ h9 => h9) rfl (by decide +kernel) rfl rfl dX3_init_47 (fun H locs hp => ?_)
      obtain ⟨st_18, est_18, hf⟩ := nam_some hf
      rw [← est_18] at hp
      have hm := hm.wI est_18
      refine W.widen (k := qn st_18 - qn st) (n := qs st_18 - qs st) (by rw [est_18]; exact Nat.le_refl _) (by rw [est_18]; exact Nat.le_refl _) ?_
      have hk_17 : qk st_18 h0 = 6 := by rw [est_18]; exact hk_17
      refine lv_aload_n hx hb dX3_init_50 rfl (lv_at hl 0 rfl) ?_
      refine lv_iconst (v := (-1)) hx hb dX3_init_51 (by decide) ?_
      refine q_pi (ci := 5) (C := RX3) (T := TX3) (N := 4) (k := 3) (v := (-1)) (ty := .int) hx hb hts iRX3 tyX3 tyX3_ok nmX3 hown hK hp hk_17 (by decide) rfl rfl (by decide) rfl (Or.inl (hts (.fieldLink RX3 26 "RecordBench$RecordReader" "place" "I") (by decide +kernel))) (fun _ h9 => h9) rfl (by decide +kernel) rfl rfl dX3_init_52 (fun H locs hp => ?_)
      obtain ⟨st_19, est_19, hf⟩ := nam_some hf
      rw [← est_19] at hp
      have hm := hm.wI est_19
      refine W.widen (k := qn st_19 - qn st) (n := qs st_19 - qs st) (by rw [est_19]; exact Nat.le_refl _) (by rw [est_19]; exact Nat.le_refl _) ?_
      have hk_17 : qk st_19 h0 = 6 := by rw [est_19]; exact hk_17
      have e2 := Option.some.inj hf
      refine W.widen (k := qn st' - qn st) (n := qs st' - qs st) (by rw [e2]; exact Nat.le_refl _) (by rw [e2]; exact Nat.le_refl _) ?_
      exact W.vret hx hb hr (fun t ht hW => ⟨⟨(), rfl, trivial, Cp.end e2 hp ht⟩, hp.2.1.F ht⟩) hp.2.1.2.2 dX3_init_55
    · have hf := pif_f c_16 hf
      refine lv_aload_n hx hb dX3_init_26 rfl (lv_at hl 0 rfl) ?_
      obtain ⟨hk_20, hf⟩ := gd_some hf
      refine q_gp (ci := 5) (C := RX3) (T := TX3) (N := 4) (k := 1) hx hb hts iRX3 hown hK hp hk_20 (by decide) rfl rfl (by decide) rfl (Or.inl (hts (.fieldLink RX3 17 "RecordBench$RecordReader" "pieces" "[LRecordBench$Piece;") (by decide +kernel))) (fun _ h9 => h9) dX3_init_27 ?_
      refine lv_iload_n hx hb dX3_init_30 rfl (lv_at hl 1 rfl) ?_
      have lthk_20 := hp.2.2.1.lt (i := h0) (by rw [hk_20]; decide)
      obtain ⟨st_21, est_21, hf⟩ := nam_some hf
      have hmr := mo_X3_init_34 h0 (fX3_init_20 h0 n20) (mo_X3_init_20 h0 n20) _ _ _ _ _ _ hf
      refine q_new (ci := 4) (C := RX2) (T := TX2) (N := 8) hx hb hts iRX2 tyX2 tyX2_ok hown (hts (.classLink RX3 15 RX2) (by decide +kernel)) (hts (.instantiable RX2 8) (by decide +kernel)) (hts (.initialized RX2) (by decide +kernel)) hK hp hA (by decide) rfl rfl dvX2 (by show qn gs - qn st + 1 ≤ qn st' - qn st; have := hmr.1; have := hm.1; have := (wN_n est_21).1; omega) (by show qs gs - qs st + 8 ≤ qs st' - qs st; have := hmr.2.1; have := hm.2.1; have := (wN_n est_21).2; omega) dX3_init_31 (fun H hp => ?_)
      rw [← est_21] at hp
      have hk_20 : qk st_21 h0 = 6 := by rw [est_21]; exact (va_up_ne _ _ (Nat.ne_of_lt lthk_20)).trans hk_20
      refine W.widen (k := qn st_21 - qn st) (n := qs st_21 - qs st) (by have := hm.1; have := (wN_n est_21).1; omega) (by have := hm.2.1; have := (wN_n est_21).2; omega) ?_
      have hm := hm.wN est_21
      exact J34 (l2, (some (qn gs)), l2, (qP gs h0 1), st_21) _ _ _ ⟨hf, hp, (lv_sub hl [0, 1] rfl), hm⟩
  refine W_blkA (fun (u : (Option Nat) × CS) H locs ls => match u with | (s0, gs) => fX3_init_15 h0 s0 gs = some st' ∧ Cp (dC, dI) ka ad ct A s.heap gs H locs ∧ lv_has ls 3 [(0, .ref (ad h0))] ∧ Mo st gs) (fun (u : (Option Nat) × CS) ls => match u with | (s0, gs) => F0 m 15 ls [va_rf (Option.map ad s0), .ref (ad h0)]) (fun (u : (Option Nat) × CS) => match u with | (s0, gs) => qn gs - qn st) (fun (u : (Option Nat) × CS) => match u with | (s0, gs) => qs gs - qs st) ?_ (fun J15 => ?_)
  · intro u H locs ls hu
    obtain ⟨s0, gs⟩ := u
    obtain ⟨hf, hp, hl, hm⟩ := hu
    show W p l e _ s m _ below meth c _ _ (qn gs - qn st) (qs gs - qs st) _ (F0 m 15 ls [va_rf (Option.map ad s0), .ref (ad h0)])
    unfold fX3_init_15 at hf
    obtain ⟨hk_22, hf⟩ := gd_some hf
    refine q_pFp (ci := 5) (C := RX3) (T := TX3) (N := 4) (k := 1) (v := s0) (ty := (.array (.object "RecordBench$Piece"))) hx hb hts iRX3 tyX3 tyX3_ok nmX3 hown hK hp (hp.2.2.1.ge hk_22 (by decide) (by decide) (by decide)) hk_22 (by decide) rfl rfl (by decide) rfl (hts (.fieldLink RX3 17 "RecordBench$RecordReader" "pieces" "[LRecordBench$Piece;") (by decide +kernel)) (fun _ h9 => h9) rfl hin rfl (by decide +kernel) (rf_narA rfl _) dX3_init_15 (fun H locs hp => ?_)
    obtain ⟨st_23, est_23, hf⟩ := nam_some hf
    rw [← est_23] at hp
    have hm := hm.wP est_23
    refine W.widen (k := qn st_23 - qn st) (n := qs st_23 - qs st) (by rw [est_23]; exact Nat.le_refl _) (by rw [est_23]; exact Nat.le_refl _) ?_
    have hk_22 : qk st_23 h0 = 6 := by rw [est_23]; exact hk_22
    refine lv_iconst (v := 0) hx hb dX3_init_18 (by decide) ?_
    refine lv_istore_n (i := 2) (lv' := [(2, .int 0), (0, .ref (ad h0))]) hx hb dX3_init_19 rfl hl (by decide) rfl (fun ls hl => ?_)
    exact J20 fuel (0, st_23) _ _ _ ⟨hf, hp, (lv_sub hl [1, 0] rfl), hm⟩
  refine W_blkA (fun (u : (Option Nat) × CS) H locs ls => match u with | (l1, gs) => fX3_init_4 h0 l1 gs = some st' ∧ Cp (dC, dI) ka ad ct A s.heap gs H locs ∧ lv_has ls 3 [(0, .ref (ad h0)), (1, va_rf (Option.map ad l1))] ∧ Mo st gs) (fun (u : (Option Nat) × CS) ls => match u with | (l1, gs) => F0 m 4 ls []) (fun (u : (Option Nat) × CS) => match u with | (l1, gs) => qn gs - qn st) (fun (u : (Option Nat) × CS) => match u with | (l1, gs) => qs gs - qs st) ?_ (fun J4 => ?_)
  · intro u H locs ls hu
    obtain ⟨l1, gs⟩ := u
    obtain ⟨hf, hp, hl, hm⟩ := hu
    show W p l e _ s m _ below meth c _ _ (qn gs - qn st) (qs gs - qs st) _ (F0 m 4 ls [])
    unfold fX3_init_4 at hf
    refine lv_aload_n hx hb dX3_init_4 rfl (lv_at hl 0 rfl) ?_
    refine o_aload_n hx hb dX3_init_5 rfl (lv_at hl 1 rfl) ?_
    obtain ⟨hk_24, hf⟩ := gd_some hf
    refine q_pFp (ci := 5) (C := RX3) (T := TX3) (N := 4) (k := 0) (v := l1) (ty := (.array (.object "RecordBench$Make"))) hx hb hts iRX3 tyX3 tyX3_ok nmX3 hown hK hp (hp.2.2.1.ge hk_24 (by decide) (by decide) (by decide)) hk_24 (by decide) rfl rfl (by decide) rfl (hts (.fieldLink RX3 9 "RecordBench$RecordReader" "makes" "[LRecordBench$Make;") (by decide +kernel)) (fun _ h9 => h9) rfl hin rfl (by decide +kernel) (rf_narA rfl _) dX3_init_6 (fun H locs hp => ?_)
    obtain ⟨st_25, est_25, hf⟩ := nam_some hf
    rw [← est_25] at hp
    have hm := hm.wP est_25
    refine W.widen (k := qn st_25 - qn st) (n := qs st_25 - qs st) (by rw [est_25]; exact Nat.le_refl _) (by rw [est_25]; exact Nat.le_refl _) ?_
    have hk_24 : qk st_25 h0 = 6 := by rw [est_25]; exact hk_24
    refine lv_aload_n hx hb dX3_init_9 rfl (lv_at hl 0 rfl) ?_
    refine lv_bipush (v := 8) hx hb dX3_init_10 (by decide) ?_
    obtain ⟨g_26, hf⟩ := gd_some hf
    have lthk_24 := hp.2.2.1.lt (i := h0) (by rw [hk_24]; decide)
    obtain ⟨st_27, est_27, hf⟩ := nam_some hf
    have hmr := mo_X3_init_15 h0 _ _ _ hf
    refine q_newq (kd := 25) (t0 := 4) (E := RX2) hx hb hown (hts (.classLink RX3 15 RX2) (by decide +kernel)) (hN.2 RX2 (by decide)) hK hp hA (by decide) rfl g_26.1 g_26.2 (by show qn st_25 - qn st + 1 ≤ qn st' - qn st; have := hmr.1; have := hm.1; have := (wN_n est_27).1; omega) (by show qs st_25 - qs st + (8 : Int32).toNatClampNeg ≤ qs st' - qs st; have := hmr.2.1; have := hm.2.1; have := (wN_n est_27).2; omega) dX3_init_12 (fun H hp => ?_)
    rw [← est_27] at hp
    have hk_24 : qk st_27 h0 = 6 := by rw [est_27]; exact (va_up_ne _ _ (Nat.ne_of_lt lthk_24)).trans hk_24
    refine W.widen (k := qn st_27 - qn st) (n := qs st_27 - qs st) (by have := hm.1; have := (wN_n est_27).1; omega) (by have := hm.2.1; have := (wN_n est_27).2; omega) ?_
    have hm := hm.wN est_27
    exact J15 ((some (qn st_25)), st_27) _ _ _ ⟨hf, hp, (lv_sub hl [0] rfl), hm⟩
  unfold fX3_init at hf
  refine lv_aload_n hx hb dX3_init_0 rfl (lv_at hl 0 rfl) ?_
  refine W.objInit hx hb hown (hts (.methodLink RX3 3 objectInit) (by decide +kernel)) (hts (.instanceMethod objectInit) (by decide +kernel)) (hts (.code objectInit ⟨#[0xb1]⟩ 1 none) (by decide +kernel)) rfl (by rw [hml]; exact hl.1) rfl dX3_init_1 (Nat.le_of_ble_eq_true rfl) (Nat.le_of_ble_eq_true rfl) ?_
  refine W.eq (g2 := F0 m 4 ls []) rfl ?_
  exact J4 (p0, st) _ _ _ ⟨hf, hp, (lv_sub hl [0, 1] rfl), hm⟩
noncomputable def fX4_init_54 (h0 : Nat)  (s0 : Option Nat) (gs : CS) : Option (CS) := gd (qk gs h0 = 7) (nam (wP gs h0 2 s0) (fun st_2 => some st_2))
set_option maxHeartbeats 1000000 in
theorem mo_X4_init_54 (h0 : Nat)   (s0 : Option Nat) (gs : CS) (st' : CS) (hf : fX4_init_54 h0 s0 gs = some st') : Mo gs st' := by
  unfold fX4_init_54 at hf
  have hm : Mo gs gs := Mo.rf
  obtain ⟨hk_1, hf⟩ := gd_some hf
  obtain ⟨st_2, est_2, hf⟩ := nam_some hf
  have hm := hm.wP est_2
  have e2 := Option.some.inj hf
  exact e2 ▸ hm
noncomputable def fX4_init_49 (h0 : Nat)  (s0 : Option Nat) (gs : CS) : Option (CS) := ono s0 (fun a_3 => gd (qk gs a_3 = 8) (bnv (fX5_init a_3 0 gs) (fun st_6 => fX4_init_54 h0 s0 st_6)))
set_option maxHeartbeats 1000000 in
theorem mo_X4_init_49 (h0 : Nat)   (s0 : Option Nat) (gs : CS) (st' : CS) (hf : fX4_init_49 h0 s0 gs = some st') : Mo gs st' := by
  unfold fX4_init_49 at hf
  have hm : Mo gs gs := Mo.rf
  obtain ⟨a_3, ha_4, hf⟩ := ono_some hf
  obtain ⟨hk_5, hf⟩ := gd_some hf
  obtain ⟨st_6, hc_7, hf⟩ := bnv_some hf
  have hm := hm.tr (mo_X5_init a_3 0 _ _ hc_7)
  exact hm.tr (mo_X4_init_54 h0 s0 st_6 _ hf)
noncomputable def fX4_init_38 (h0 : Nat) (k20 : Int32 → CS → Option (CS)) (l2 : Int32) (s0 : Option Nat) (s1 : Int32) (s2 : Option Nat) (gs : CS) : Option (CS) := ono s0 (fun a_9 => gd (qk gs a_9 = 5) (ono s2 (fun a_12 => gd (qk gs a_12 = 25) (gd (vp_in s1 (ql gs a_12)) (nam (wP gs a_12 s1.toNatClampNeg (some a_9)) (fun st_16 => nam (l2 + 1) (fun v_17 => k20 v_17 st_16)))))))
set_option maxHeartbeats 1000000 in
theorem mo_X4_init_38 (h0 : Nat) (k20 : Int32 → CS → Option (CS)) (hk20 : ∀ (l2 : Int32) (gs : CS) (st' : CS), k20 l2 gs = some st' → Mo gs st') (l2 : Int32) (s0 : Option Nat) (s1 : Int32) (s2 : Option Nat) (gs : CS) (st' : CS) (hf : fX4_init_38 h0 k20 l2 s0 s1 s2 gs = some st') : Mo gs st' := by
  unfold fX4_init_38 at hf
  have hm : Mo gs gs := Mo.rf
  obtain ⟨a_9, ha_10, hf⟩ := ono_some hf
  obtain ⟨hk_11, hf⟩ := gd_some hf
  obtain ⟨a_12, ha_13, hf⟩ := ono_some hf
  obtain ⟨hk_14, hf⟩ := gd_some hf
  obtain ⟨g_15, hf⟩ := gd_some hf
  obtain ⟨st_16, est_16, hf⟩ := nam_some hf
  have hm := hm.wP est_16
  obtain ⟨v_17, ev_17, hf⟩ := nam_some hf
  exact hm.tr (hk20 v_17 st_16 _ hf)
noncomputable def fX4_init_34 (h0 : Nat) (k20 : Int32 → CS → Option (CS)) (l2 : Int32) (s0 : Option Nat) (s1 : Int32) (s2 : Option Nat) (gs : CS) : Option (CS) := ono s0 (fun a_18 => gd (qk gs a_18 = 5) (bnv (fX2_init a_18 gs) (fun st_21 => fX4_init_38 h0 k20 l2 s0 s1 s2 st_21)))
set_option maxHeartbeats 1000000 in
theorem mo_X4_init_34 (h0 : Nat) (k20 : Int32 → CS → Option (CS)) (hk20 : ∀ (l2 : Int32) (gs : CS) (st' : CS), k20 l2 gs = some st' → Mo gs st') (l2 : Int32) (s0 : Option Nat) (s1 : Int32) (s2 : Option Nat) (gs : CS) (st' : CS) (hf : fX4_init_34 h0 k20 l2 s0 s1 s2 gs = some st') : Mo gs st' := by
  unfold fX4_init_34 at hf
  have hm : Mo gs gs := Mo.rf
  obtain ⟨a_18, ha_19, hf⟩ := ono_some hf
  obtain ⟨hk_20, hf⟩ := gd_some hf
  obtain ⟨st_21, hc_22, hf⟩ := bnv_some hf
  have hm := hm.ke (mo_X2_init a_18 _ _ hc_22)
  exact hm.tr (mo_X4_init_38 h0 k20 hk20 l2 s0 s1 s2 st_21 _ hf)
noncomputable def fX4_init_20 (h0 : Nat)  : Nat → Int32 → CS → Option (CS)
  | 0 => fun _ _ => none
  | n + 1 => fun l2 gs => pif (8 ≤ l2) (nam (wN gs 8 0 2) (fun st_25 => fX4_init_49 h0 (some (qn gs)) st_25)) (gd (qk gs h0 = 7) (nam (wN gs 5 0 8) (fun st_27 => fX4_init_34 h0 (fX4_init_20 h0 n) l2 (some (qn gs)) l2 (qP gs h0 1) st_27)))
theorem fX4_init_20_z (h0 : Nat)  (l2 : Int32) (gs : CS) : fX4_init_20 h0 0 l2 gs = none := rfl
theorem fX4_init_20_s (h0 : Nat)  (n : Nat) (l2 : Int32) (gs : CS) : fX4_init_20 h0 (n + 1) l2 gs = pif (8 ≤ l2) (nam (wN gs 8 0 2) (fun st_25 => fX4_init_49 h0 (some (qn gs)) st_25)) (gd (qk gs h0 = 7) (nam (wN gs 5 0 8) (fun st_27 => fX4_init_34 h0 (fX4_init_20 h0 n) l2 (some (qn gs)) l2 (qP gs h0 1) st_27))) := rfl
set_option maxHeartbeats 1000000 in
theorem mo_X4_init_20 (h0 : Nat)   : ∀ (n : Nat) (l2 : Int32) (gs : CS) (st' : CS), fX4_init_20 h0 n l2 gs = some st' → Mo gs st' := by
  intro n
  induction n with
  | zero =>
    intro l2 gs st' hf
    rw [fX4_init_20_z] at hf
    cases hf
  | succ n ih =>
    intro l2 gs st' hf
    rw [fX4_init_20_s] at hf
    have hm : Mo gs gs := Mo.rf
    rcases pif_or hf with ⟨c_24, hf⟩ | ⟨c_24, hf⟩
    · obtain ⟨st_25, est_25, hf⟩ := nam_some hf
      have hm := hm.wN est_25
      exact hm.tr (mo_X4_init_49 h0 (some (qn gs)) st_25 _ hf)
    · obtain ⟨hk_26, hf⟩ := gd_some hf
      obtain ⟨st_27, est_27, hf⟩ := nam_some hf
      have hm := hm.wN est_27
      exact hm.tr (mo_X4_init_34 h0 (fX4_init_20 h0 n) ih l2 (some (qn gs)) l2 (qP gs h0 1) st_27 _ hf)
noncomputable def fX4_init_15 (h0 : Nat)  (s0 : Option Nat) (gs : CS) : Option (CS) := gd (qk gs h0 = 7) (nam (wP gs h0 1 s0) (fun st_29 => fX4_init_20 h0 fuel 0 st_29))
set_option maxHeartbeats 1000000 in
theorem mo_X4_init_15 (h0 : Nat)   (s0 : Option Nat) (gs : CS) (st' : CS) (hf : fX4_init_15 h0 s0 gs = some st') : Mo gs st' := by
  unfold fX4_init_15 at hf
  have hm : Mo gs gs := Mo.rf
  obtain ⟨hk_28, hf⟩ := gd_some hf
  obtain ⟨st_29, est_29, hf⟩ := nam_some hf
  have hm := hm.wP est_29
  exact hm.tr (mo_X4_init_20 h0 fuel 0 st_29 _ hf)
noncomputable def fX4_init_4 (h0 : Nat)  (l1 : Option Nat) (gs : CS) : Option (CS) := gd (qk gs h0 = 7) (nam (wP gs h0 0 l1) (fun st_31 => gd (¬ (8 : Int32) < 0 ∧ (8 : Int32).toNatClampNeg * 4 ≤ 536870912) (nam (wN st_31 25 (8 : Int32).toNatClampNeg (8 : Int32).toNatClampNeg) (fun st_33 => fX4_init_15 h0 (some (qn st_31)) st_33))))
set_option maxHeartbeats 1000000 in
theorem mo_X4_init_4 (h0 : Nat)   (l1 : Option Nat) (gs : CS) (st' : CS) (hf : fX4_init_4 h0 l1 gs = some st') : Mo gs st' := by
  unfold fX4_init_4 at hf
  have hm : Mo gs gs := Mo.rf
  obtain ⟨hk_30, hf⟩ := gd_some hf
  obtain ⟨st_31, est_31, hf⟩ := nam_some hf
  have hm := hm.wP est_31
  obtain ⟨g_32, hf⟩ := gd_some hf
  obtain ⟨st_33, est_33, hf⟩ := nam_some hf
  have hm := hm.wN est_33
  exact hm.tr (mo_X4_init_15 h0 (some (qn st_31)) st_33 _ hf)
noncomputable def fX4_init (h0 : Nat) (p0 : Option Nat) (st : CS) : Option (CS) := fX4_init_4 h0 p0 st
set_option maxHeartbeats 1000000 in
theorem mo_X4_init (h0 : Nat) (p0 : Option Nat) (st : CS) (st' : CS) (hf : fX4_init h0 p0 st = some st') : Mo st st' := by
  unfold fX4_init at hf
  have hm : Mo st st := Mo.rf
  exact hm.tr (mo_X4_init_4 h0 p0 st _ hf)
def wq_X4_init : List Cond := .code yX4_init cX4_init 3 none :: (([.methodLink RX4 3 objectInit, .instanceMethod objectInit, .code objectInit ⟨#[0xb1]⟩ 1 none, .fieldLink RX4 9 "RecordBench$RecordWriter" "makes" "[LRecordBench$Make;", .fieldLink RX4 17 "RecordBench$RecordWriter" "pieces" "[LRecordBench$Piece;", .fieldLink RX4 27 "RecordBench$RecordWriter" "nothing" "LRecordBench$Row;", .instanceMethod yX5_init, .initialized RX5, .methodLink RX4 24 yX5_init, .instanceMethod yX2_init, .initialized RX2, .classLink RX4 22 RX5, .instantiable RX5 2, .classLink RX4 15 RX2, .instantiable RX2 8, .code yX5_init cX5_init 2 none, .methodLink RX5 3 objectInit, .methodLink RX5 9 Lib.Math.max.name, .static Lib.Math.max.name, .initialized "java/lang/Math", .code Lib.Math.max.name Lib.Math.max.code 2 (some .int), .fieldLink RX5 15 "RecordBench$Row" "bytes" "[I", .fieldLink RX5 21 "RecordBench$Row" "size" "I", .arrayClass .int, .code yX2_init cX2_init 1 none, .methodLink RX2 3 objectInit, .fieldLink RX2 9 "RecordBench$Piece" "number" "I", .fieldLink RX2 15 "RecordBench$Piece" "withLength" "Z", .fieldLink RX2 19 "RecordBench$Piece" "raw" "J", .fieldLink RX2 23 "RecordBench$Piece" "body" "I", .fieldLink RX2 26 "RecordBench$Piece" "end" "I", .fieldLink RX2 29 "RecordBench$Piece" "fault" "I", .fieldLink RX2 32 "RecordBench$Piece" "pos" "I", .fieldLink RX2 35 "RecordBench$Piece" "broken" "Z"] : List Cond) ++ wsX40 ++ wsX50 ++ wsX20)
theorem gs_wq_X4_init_wsX50 : GoodIn wq_X4_init wsX50 := fun w h => ⟨List.mem_cons_of_mem _ (List.mem_append_left _ (List.mem_append_right _ h)), (gt_wsX50 w h).2⟩
set_option maxRecDepth 20000 in
theorem gq_X4_init_X5_init_24 : GoodIn wq_X4_init (wq_X5_init) := (goodIn_ca (goodIn_r _ [16, 17, 2, 3, 18, 19, 20, 21, 22, 23, 24] rfl rfl) gs_wq_X4_init_wsX50)
theorem gs_wq_X4_init_wsX20 : GoodIn wq_X4_init wsX20 := fun w h => ⟨List.mem_cons_of_mem _ (List.mem_append_right _ h), (gt_wsX20 w h).2⟩
set_option maxRecDepth 20000 in
theorem gq_X4_init_X2_init_21 : GoodIn wq_X4_init (wq_X2_init) := (goodIn_ca (goodIn_r _ [25, 26, 2, 3, 27, 28, 29, 30, 31, 32, 33, 34] rfl rfl) gs_wq_X4_init_wsX20)
set_option maxHeartbeats 4000000 in
set_option maxRecDepth 100000 in
theorem c_X4_init (l : Launch) (dC : Nat → ClassId) (dI : Nat → Nat → Nat) (ka ad : Nat → Nat) (ct : Nat → ClassId) (h0 : Nat) (p0 : Option Nat) (st st' : CS) (hf : fX4_init h0 p0 st = some st') (sz : Nat) : Met l yX4_init wq_X4_init ({ frames := 2, cells := (qn st' - qn st), slots := (qs st' - qs st), locals := 69 }) (va_Pc [.ref (ad h0), va_rf (Option.map ad p0)] (PrC (dC, dI) ct ka ad st sz)) (va_Qv (fun (_ : Unit) => True) (fun _ => CB (dC, dI) ct ka ad st' (aC ad st sz)) (aC ad st sz)) (qn st' - qn st) (qs st' - qs st) (aC ad st sz) := by
  refine Met.ofW (cc := cX4_init) (maxL := 3) (ret := none) (by decide) rfl ?_
  intro p e s m args below meth c s₁ B hml hv
  obtain ⟨rfl, hsz, hw0, hK, hN, hZ, hC, hR, hL, hw1, hw2⟩ := hv
  have hx := B.exec
  have hb := B.bytes
  have hr := B.returns
  have hts := atoms_spec (ws := wq_X4_init) B.pre
  have hown : s.vm.findClass RX4 = some m.cls := findClass_of_methodNamed B.named
  have hin : meth.name = "<init>" := (name_of_methodNamed B.named B.method).1
  have iRX4 : ∀ w ∈ u_ws RX4 TX4 3, w ∈ wq_X4_init := fun w h => List.mem_cons_of_mem _ (List.mem_append_left _ (List.mem_append_left _ (List.mem_append_right _ h)))
  have iRX5 : ∀ w ∈ u_ws RX5 TX5 2, w ∈ wq_X4_init := fun w h => List.mem_cons_of_mem _ (List.mem_append_left _ (List.mem_append_right _ h))
  have iRX2 : ∀ w ∈ u_ws RX2 TX2 8, w ∈ wq_X4_init := fun w h => List.mem_cons_of_mem _ (List.mem_append_right _ h)
  subst hsz
  have hp : Cp (dC, dI) ka ad ct (aC ad st s.heap.size) s.heap st s.heap [] := ⟨fun i a b => ⟨hw0 i a b, Or.inl ⟨i, a, b, rfl⟩⟩, va_S.rf, hw1, hw2⟩
  generalize hAe : aC ad st s.heap.size = A at hp hZ hC ⊢
  have hA : ∀ q : Nat, s.heap.size ≤ q → A q := fun q h => by rw [← hAe]; exact Or.inr h
  have hl := lv_entry ([.ref (ad h0), va_rf (Option.map ad p0)]) (n := 3) (by simp [lg_sl, rf_cat, vc_i, vc_l, vc_r, vc_n])
  rw [lg_entry_eq]
  generalize (lg_sl ([.ref (ad h0), va_rf (Option.map ad p0)]) ++ List.replicate (3 - (lg_sl ([.ref (ad h0), va_rf (Option.map ad p0)])).length) Slot.unset).toArray = ls at hl ⊢
  have hl : lv_has ls 3 [(0, .ref (ad h0)), (1, va_rf (Option.map ad p0))] := by simpa [lv_args, rf_cat, vc_i, vc_l, vc_r, vc_n] using hl
  have hm : Mo st st := Mo.rf
  refine W.widen (k := qn st - qn st) (n := qs st - qs st) (Nat.zero_le _) (Nat.zero_le _) ?_
  refine W_blkA (fun (u : (Option Nat) × CS) H locs ls => match u with | (s0, gs) => fX4_init_54 h0 s0 gs = some st' ∧ Cp (dC, dI) ka ad ct A s.heap gs H locs ∧ lv_has ls 3 [] ∧ Mo st gs) (fun (u : (Option Nat) × CS) ls => match u with | (s0, gs) => F0 m 54 ls [va_rf (Option.map ad s0), .ref (ad h0)]) (fun (u : (Option Nat) × CS) => match u with | (s0, gs) => qn gs - qn st) (fun (u : (Option Nat) × CS) => match u with | (s0, gs) => qs gs - qs st) ?_ (fun J54 => ?_)
  · intro u H locs ls hu
    obtain ⟨s0, gs⟩ := u
    obtain ⟨hf, hp, hl, hm⟩ := hu
    show W p l e _ s m _ below meth c _ _ (qn gs - qn st) (qs gs - qs st) _ (F0 m 54 ls [va_rf (Option.map ad s0), .ref (ad h0)])
    unfold fX4_init_54 at hf
    obtain ⟨hk_1, hf⟩ := gd_some hf
    refine q_pFp (ci := 6) (C := RX4) (T := TX4) (N := 3) (k := 2) (v := s0) (ty := (.object "RecordBench$Row")) hx hb hts iRX4 tyX4 tyX4_ok nmX4 hown hK hp (hp.2.2.1.ge hk_1 (by decide) (by decide) (by decide)) hk_1 (by decide) rfl rfl (by decide) rfl (hts (.fieldLink RX4 27 "RecordBench$RecordWriter" "nothing" "LRecordBench$Row;") (by decide +kernel)) (fun _ h9 => h9) rfl hin rfl (by decide +kernel) (rf_nar rfl _) dX4_init_54 (fun H locs hp => ?_)
    obtain ⟨st_2, est_2, hf⟩ := nam_some hf
    rw [← est_2] at hp
    have hm := hm.wP est_2
    refine W.widen (k := qn st_2 - qn st) (n := qs st_2 - qs st) (by rw [est_2]; exact Nat.le_refl _) (by rw [est_2]; exact Nat.le_refl _) ?_
    have hk_1 : qk st_2 h0 = 7 := by rw [est_2]; exact hk_1
    have e2 := Option.some.inj hf
    refine W.widen (k := qn st' - qn st) (n := qs st' - qs st) (by rw [e2]; exact Nat.le_refl _) (by rw [e2]; exact Nat.le_refl _) ?_
    exact W.vret hx hb hr (fun t ht hW => ⟨⟨(), rfl, trivial, Cp.end e2 hp ht⟩, hp.2.1.F ht⟩) hp.2.1.2.2 dX4_init_57
  refine W_blkA (fun (u : (Option Nat) × CS) H locs ls => match u with | (s0, gs) => fX4_init_49 h0 s0 gs = some st' ∧ Cp (dC, dI) ka ad ct A s.heap gs H locs ∧ lv_has ls 3 [] ∧ Mo st gs) (fun (u : (Option Nat) × CS) ls => match u with | (s0, gs) => F0 m 49 ls [va_rf (Option.map ad s0), .ref (ad h0)]) (fun (u : (Option Nat) × CS) => match u with | (s0, gs) => qn gs - qn st) (fun (u : (Option Nat) × CS) => match u with | (s0, gs) => qs gs - qs st) ?_ (fun J49 => ?_)
  · intro u H locs ls hu
    obtain ⟨s0, gs⟩ := u
    obtain ⟨hf, hp, hl, hm⟩ := hu
    show W p l e _ s m _ below meth c _ _ (qn gs - qn st) (qs gs - qs st) _ (F0 m 49 ls [va_rf (Option.map ad s0), .ref (ad h0)])
    unfold fX4_init_49 at hf
    refine lv_dup hx hb dX4_init_49 (rf_cat _) ?_
    refine lv_iconst (v := 0) hx hb dX4_init_50 (by decide) ?_
    obtain ⟨a_3, ha_4, hf⟩ := ono_some hf
    refine o_at1 ha_4 ?_
    obtain ⟨hk_5, hf⟩ := gd_some hf
    obtain ⟨st_6, hc_7, hf⟩ := bnv_some hf
    have lthk_5 := hp.2.2.1.lt (i := a_3) (by rw [hk_5]; decide)
    have hmc := (mo_X5_init a_3 0 _ _ hc_7)
    have hmr := mo_X4_init_54 h0 _ _ _ hf
    refine q_cv hp hA (va_runI (As := [.int 0]) (rest := [va_rf (Option.map ad s0), .ref (ad h0)]) ⟨hx, hb, hml, hown, hts⟩ (c_X5_init l dC dI ka ad ct a_3 0 _ _ hc_7 _) (cwI 1 hts gq_X4_init_X5_init_24 rfl rfl rfl (hts (.initialized RX5) (by decide +kernel)) (hts (.methodLink RX4 24 yX5_init) (by decide +kernel)) (hts (.instanceMethod yX5_init) (by decide +kernel)) rfl (by decide +kernel) ⟨Nat.le_of_ble_eq_true rfl, Nat.le_of_ble_eq_true rfl⟩) ⟨PrC.blind _, q_pre hp hK hN hZ hC hR hL hA⟩ rfl rfl hl.1 rfl (lv_room (by simp [rf_cat, vc_i, vc_l, vc_r, vc_n])) dX4_init_51 ⟨by show qn gs - qn st + (qn st_6 - qn gs) ≤ qn st' - qn st; have := hmr.1; have := hm.1; have := hmc.1; omega, by show qs gs - qs st + (qs st_6 - qs gs) ≤ qs st' - qs st; have := hmr.2.1; have := hm.2.1; have := hmc.2.1; omega⟩) (fun H locs hp => ?_)
    have hk_5 : qk st_6 a_3 = 8 := ((mo_X5_init a_3 0 _ _ hc_7).2.2 _ lthk_5).1.trans hk_5
    refine W.widen (k := qn st_6 - qn st) (n := qs st_6 - qs st) (by have := hm.1; have := hmc.1; omega) (by have := hm.2.1; have := hmc.2.1; omega) ?_
    have hm := hm.tr hmc
    exact J54 (s0, st_6) _ _ _ ⟨hf, hp, (lv_sub hl [] rfl), hm⟩
  refine W_lpA (fun n20 (u : Int32 × CS) H locs ls => match u with | (l2, gs) => fX4_init_20 h0 n20 l2 gs = some st' ∧ Cp (dC, dI) ka ad ct A s.heap gs H locs ∧ lv_has ls 3 [(0, .ref (ad h0)), (2, .int l2)] ∧ Mo st gs) (fun (u : Int32 × CS) ls => match u with | (l2, gs) => F0 m 20 ls []) (fun (u : Int32 × CS) => match u with | (l2, gs) => qn gs - qn st) (fun (u : Int32 × CS) => match u with | (l2, gs) => qs gs - qs st) ?_ ?_ (fun J20 => ?_)
  · intro u H locs ls hu
    obtain ⟨l2, gs⟩ := u
    obtain ⟨hf, hp, hl, hm⟩ := hu
    rw [fX4_init_20_z] at hf
    cases hf
  · intro n20 ih20 u H locs ls hu
    obtain ⟨l2, gs⟩ := u
    obtain ⟨hf, hp, hl, hm⟩ := hu
    show W p l e _ s m _ below meth c _ _ (qn gs - qn st) (qs gs - qs st) _ (F0 m 20 ls [])
    refine W_blkA (fun (u : Int32 × (Option Nat) × Int32 × (Option Nat) × CS) H locs ls => match u with | (l2, s0, s1, s2, gs) => fX4_init_38 h0 (fX4_init_20 h0 n20) l2 s0 s1 s2 gs = some st' ∧ Cp (dC, dI) ka ad ct A s.heap gs H locs ∧ lv_has ls 3 [(0, .ref (ad h0)), (2, .int l2)] ∧ Mo st gs) (fun (u : Int32 × (Option Nat) × Int32 × (Option Nat) × CS) ls => match u with | (l2, s0, s1, s2, gs) => F0 m 38 ls [va_rf (Option.map ad s0), .int s1, va_rf (Option.map ad s2)]) (fun (u : Int32 × (Option Nat) × Int32 × (Option Nat) × CS) => match u with | (l2, s0, s1, s2, gs) => qn gs - qn st) (fun (u : Int32 × (Option Nat) × Int32 × (Option Nat) × CS) => match u with | (l2, s0, s1, s2, gs) => qs gs - qs st) ?_ (fun J38 => ?_)
    · intro u H locs ls hu
      obtain ⟨l2, s0, s1, s2, gs⟩ := u
      obtain ⟨hf, hp, hl, hm⟩ := hu
      show W p l e _ s m _ below meth c _ _ (qn gs - qn st) (qs gs - qs st) _ (F0 m 38 ls [va_rf (Option.map ad s0), .int s1, va_rf (Option.map ad s2)])
      unfold fX4_init_38 at hf
      obtain ⟨a_9, ha_10, hf⟩ := ono_some hf
      refine o_at ha_10 ?_
      obtain ⟨hk_11, hf⟩ := gd_some hf
      obtain ⟨a_12, ha_13, hf⟩ := ono_some hf
      refine o_at2 ha_13 ?_
      obtain ⟨hk_14, hf⟩ := gd_some hf
      obtain ⟨g_15, hf⟩ := gd_some hf
      refine q_sq (t0 := 4) (cj := 4) hx hb hK hp hk_14 (by decide) rfl hk_11 (by decide) (by decide) rfl g_15 dX4_init_38 (fun H locs hp => ?_)
      obtain ⟨st_16, est_16, hf⟩ := nam_some hf
      rw [← est_16] at hp
      have hm := hm.wP est_16
      refine W.widen (k := qn st_16 - qn st) (n := qs st_16 - qs st) (by rw [est_16]; exact Nat.le_refl _) (by rw [est_16]; exact Nat.le_refl _) ?_
      have hk_11 : qk st_16 a_9 = 5 := by rw [est_16]; exact hk_11
      have hk_14 : qk st_16 a_12 = 25 := by rw [est_16]; exact hk_14
      obtain ⟨v_17, ev_17, hf⟩ := nam_some hf
      refine lv_iinc (v := v_17) (lv' := [(2, .int v_17), (0, .ref (ad h0))]) hx hb dX4_init_39 hl (k := 1) rfl ev_17.symm (by decide) rfl (fun ls hl => ?_)
      refine lv_goto (tgt := 20) hx hb dX4_init_42 (by decide) ?_
      exact ih20 (v_17, st_16) _ _ _ ⟨hf, hp, (lv_sub hl [1, 0] rfl), hm⟩
    refine W_blkA (fun (u : Int32 × (Option Nat) × Int32 × (Option Nat) × CS) H locs ls => match u with | (l2, s0, s1, s2, gs) => fX4_init_34 h0 (fX4_init_20 h0 n20) l2 s0 s1 s2 gs = some st' ∧ Cp (dC, dI) ka ad ct A s.heap gs H locs ∧ lv_has ls 3 [(0, .ref (ad h0)), (2, .int l2)] ∧ Mo st gs) (fun (u : Int32 × (Option Nat) × Int32 × (Option Nat) × CS) ls => match u with | (l2, s0, s1, s2, gs) => F0 m 34 ls [va_rf (Option.map ad s0), .int s1, va_rf (Option.map ad s2)]) (fun (u : Int32 × (Option Nat) × Int32 × (Option Nat) × CS) => match u with | (l2, s0, s1, s2, gs) => qn gs - qn st) (fun (u : Int32 × (Option Nat) × Int32 × (Option Nat) × CS) => match u with | (l2, s0, s1, s2, gs) => qs gs - qs st) ?_ (fun J34 => ?_)
    · intro u H locs ls hu
      obtain ⟨l2, s0, s1, s2, gs⟩ := u
      obtain ⟨hf, hp, hl, hm⟩ := hu
      show W p l e _ s m _ below meth c _ _ (qn gs - qn st) (qs gs - qs st) _ (F0 m 34 ls [va_rf (Option.map ad s0), .int s1, va_rf (Option.map ad s2)])
      unfold fX4_init_34 at hf
      refine lv_dup hx hb dX4_init_34 (rf_cat _) ?_
      obtain ⟨a_18, ha_19, hf⟩ := ono_some hf
      refine o_at ha_19 ?_
      obtain ⟨hk_20, hf⟩ := gd_some hf
      obtain ⟨st_21, hc_22, hf⟩ := bnv_some hf
      have hmc := (mo_X2_init a_18 _ _ hc_22).mo
      have hmr := mo_X4_init_38 h0 (fX4_init_20 h0 n20) (mo_X4_init_20 h0 n20) _ _ _ _ _ _ hf
      refine q_cv hp hA (va_runIN (As := []) (rest := [va_rf (Option.map ad s0), .int s1, va_rf (Option.map ad s2)]) ⟨hx, hb, hml, hown, hts⟩ (c_X2_init l dC dI ka ad ct a_18 _ _ hc_22 _) ⟨va_cnB 0 hts gq_X4_init_X2_init_21 rfl rfl rfl (hN.1 (.methodLinkNest RX4 21 yX2_init "RecordBench") (by decide +kernel)) (hts (.initialized RX2) (by decide +kernel)) (by decide +kernel) ⟨Nat.le_of_ble_eq_true rfl, Nat.le_of_ble_eq_true rfl⟩, rfl, (hts (.instanceMethod yX2_init) (by decide +kernel))⟩ ⟨PrC.blind _, q_pre hp hK hN hZ hC hR hL hA⟩ rfl rfl hl.1 rfl (lv_room (by simp [rf_cat, vc_i, vc_l, vc_r, vc_n])) dX4_init_35 ⟨by show qn gs - qn st + 0 ≤ qn st' - qn st; have := hmr.1; have := hm.1; have := hmc.1; omega, by show qs gs - qs st + 0 ≤ qs st' - qs st; have := hmr.2.1; have := hm.2.1; have := hmc.2.1; omega⟩) (fun H locs hp => ?_)
      have hk_20 : qk st_21 a_18 = 5 := by rw [(mo_X2_init a_18 _ _ hc_22).2.2.1]; exact hk_20
      refine W.widen (k := qn st_21 - qn st) (n := qs st_21 - qs st) (by have := hmc.1; omega) (by have := hmc.2.1; omega) ?_
      have hm := hm.tr hmc
      exact J38 (l2, s0, s1, s2, st_21) _ _ _ ⟨hf, hp, (lv_sub hl [0, 1] rfl), hm⟩
    rw [fX4_init_20_s] at hf
    refine lv_iload_n hx hb dX4_init_20 rfl (lv_at hl 1 rfl) ?_
    refine lv_bipush (v := 8) hx hb dX4_init_21 (by decide) ?_
    refine lv_icmp_ge (tgt := 45) hx hb dX4_init_23 (by decide) (fun c_24 => ?_) (fun c_24 => ?_)
    · have hf := pif_t c_24 hf
      refine lv_aload_n hx hb dX4_init_45 rfl (lv_at hl 0 rfl) ?_
      obtain ⟨st_25, est_25, hf⟩ := nam_some hf
      have hmr := mo_X4_init_49 h0 _ _ _ hf
      refine q_new (ci := 7) (C := RX5) (T := TX5) (N := 2) hx hb hts iRX5 tyX5 tyX5_ok hown (hts (.classLink RX4 22 RX5) (by decide +kernel)) (hts (.instantiable RX5 2) (by decide +kernel)) (hts (.initialized RX5) (by decide +kernel)) hK hp hA (by decide) rfl rfl dvX5 (by show qn gs - qn st + 1 ≤ qn st' - qn st; have := hmr.1; have := hm.1; have := (wN_n est_25).1; omega) (by show qs gs - qs st + 2 ≤ qs st' - qs st; have := hmr.2.1; have := hm.2.1; have := (wN_n est_25).2; omega) dX4_init_46 (fun H hp => ?_)
      rw [← est_25] at hp
      refine W.widen (k := qn st_25 - qn st) (n := qs st_25 - qs st) (by have := hm.1; have := (wN_n est_25).1; omega) (by have := hm.2.1; have := (wN_n est_25).2; omega) ?_
      have hm := hm.wN est_25
      exact J49 ((some (qn gs)), st_25) _ _ _ ⟨hf, hp, (lv_sub hl [] rfl), hm⟩
    · have hf := pif_f c_24 hf
      refine lv_aload_n hx hb dX4_init_26 rfl (lv_at hl 0 rfl) ?_
      obtain ⟨hk_26, hf⟩ := gd_some hf
      refine q_gp (ci := 6) (C := RX4) (T := TX4) (N := 3) (k := 1) hx hb hts iRX4 hown hK hp hk_26 (by decide) rfl rfl (by decide) rfl (Or.inl (hts (.fieldLink RX4 17 "RecordBench$RecordWriter" "pieces" "[LRecordBench$Piece;") (by decide +kernel))) (fun _ h9 => h9) dX4_init_27 ?_
      refine lv_iload_n hx hb dX4_init_30 rfl (lv_at hl 1 rfl) ?_
      have lthk_26 := hp.2.2.1.lt (i := h0) (by rw [hk_26]; decide)
      obtain ⟨st_27, est_27, hf⟩ := nam_some hf
      have hmr := mo_X4_init_34 h0 (fX4_init_20 h0 n20) (mo_X4_init_20 h0 n20) _ _ _ _ _ _ hf
      refine q_new (ci := 4) (C := RX2) (T := TX2) (N := 8) hx hb hts iRX2 tyX2 tyX2_ok hown (hts (.classLink RX4 15 RX2) (by decide +kernel)) (hts (.instantiable RX2 8) (by decide +kernel)) (hts (.initialized RX2) (by decide +kernel)) hK hp hA (by decide) rfl rfl dvX2 (by show qn gs - qn st + 1 ≤ qn st' - qn st; have := hmr.1; have := hm.1; have := (wN_n est_27).1; omega) (by show qs gs - qs st + 8 ≤ qs st' - qs st; have := hmr.2.1; have := hm.2.1; have := (wN_n est_27).2; omega) dX4_init_31 (fun H hp => ?_)
      rw [← est_27] at hp
      have hk_26 : qk st_27 h0 = 7 := by rw [est_27]; exact (va_up_ne _ _ (Nat.ne_of_lt lthk_26)).trans hk_26
      refine W.widen (k := qn st_27 - qn st) (n := qs st_27 - qs st) (by have := hm.1; have := (wN_n est_27).1; omega) (by have := hm.2.1; have := (wN_n est_27).2; omega) ?_
      have hm := hm.wN est_27
      exact J34 (l2, (some (qn gs)), l2, (qP gs h0 1), st_27) _ _ _ ⟨hf, hp, (lv_sub hl [0, 1] rfl), hm⟩
  refine W_blkA (fun (u : (Option Nat) × CS) H locs ls => match u with | (s0, gs) => fX4_init_15 h0 s0 gs = some st' ∧ Cp (dC, dI) ka ad ct A s.heap gs H locs ∧ lv_has ls 3 [(0, .ref (ad h0))] ∧ Mo st gs) (fun (u : (Option Nat) × CS) ls => match u with | (s0, gs) => F0 m 15 ls [va_rf (Option.map ad s0), .ref (ad h0)]) (fun (u : (Option Nat) × CS) => match u with | (s0, gs) => qn gs - qn st) (fun (u : (Option Nat) × CS) => match u with | (s0, gs) => qs gs - qs st) ?_ (fun J15 => ?_)
  · intro u H locs ls hu
    obtain ⟨s0, gs⟩ := u
    obtain ⟨hf, hp, hl, hm⟩ := hu
    show W p l e _ s m _ below meth c _ _ (qn gs - qn st) (qs gs - qs st) _ (F0 m 15 ls [va_rf (Option.map ad s0), .ref (ad h0)])
    unfold fX4_init_15 at hf
    obtain ⟨hk_28, hf⟩ := gd_some hf
    refine q_pFp (ci := 6) (C := RX4) (T := TX4) (N := 3) (k := 1) (v := s0) (ty := (.array (.object "RecordBench$Piece"))) hx hb hts iRX4 tyX4 tyX4_ok nmX4 hown hK hp (hp.2.2.1.ge hk_28 (by decide) (by decide) (by decide)) hk_28 (by decide) rfl rfl (by decide) rfl (hts (.fieldLink RX4 17 "RecordBench$RecordWriter" "pieces" "[LRecordBench$Piece;") (by decide +kernel)) (fun _ h9 => h9) rfl hin rfl (by decide +kernel) (rf_narA rfl _) dX4_init_15 (fun H locs hp => ?_)
    obtain ⟨st_29, est_29, hf⟩ := nam_some hf
    rw [← est_29] at hp
    have hm := hm.wP est_29
    refine W.widen (k := qn st_29 - qn st) (n := qs st_29 - qs st) (by rw [est_29]; exact Nat.le_refl _) (by rw [est_29]; exact Nat.le_refl _) ?_
    have hk_28 : qk st_29 h0 = 7 := by rw [est_29]; exact hk_28
    refine lv_iconst (v := 0) hx hb dX4_init_18 (by decide) ?_
    refine lv_istore_n (i := 2) (lv' := [(2, .int 0), (0, .ref (ad h0))]) hx hb dX4_init_19 rfl hl (by decide) rfl (fun ls hl => ?_)
    exact J20 fuel (0, st_29) _ _ _ ⟨hf, hp, (lv_sub hl [1, 0] rfl), hm⟩
  refine W_blkA (fun (u : (Option Nat) × CS) H locs ls => match u with | (l1, gs) => fX4_init_4 h0 l1 gs = some st' ∧ Cp (dC, dI) ka ad ct A s.heap gs H locs ∧ lv_has ls 3 [(0, .ref (ad h0)), (1, va_rf (Option.map ad l1))] ∧ Mo st gs) (fun (u : (Option Nat) × CS) ls => match u with | (l1, gs) => F0 m 4 ls []) (fun (u : (Option Nat) × CS) => match u with | (l1, gs) => qn gs - qn st) (fun (u : (Option Nat) × CS) => match u with | (l1, gs) => qs gs - qs st) ?_ (fun J4 => ?_)
  · intro u H locs ls hu
    obtain ⟨l1, gs⟩ := u
    obtain ⟨hf, hp, hl, hm⟩ := hu
    show W p l e _ s m _ below meth c _ _ (qn gs - qn st) (qs gs - qs st) _ (F0 m 4 ls [])
    unfold fX4_init_4 at hf
    refine lv_aload_n hx hb dX4_init_4 rfl (lv_at hl 0 rfl) ?_
    refine o_aload_n hx hb dX4_init_5 rfl (lv_at hl 1 rfl) ?_
    obtain ⟨hk_30, hf⟩ := gd_some hf
    refine q_pFp (ci := 6) (C := RX4) (T := TX4) (N := 3) (k := 0) (v := l1) (ty := (.array (.object "RecordBench$Make"))) hx hb hts iRX4 tyX4 tyX4_ok nmX4 hown hK hp (hp.2.2.1.ge hk_30 (by decide) (by decide) (by decide)) hk_30 (by decide) rfl rfl (by decide) rfl (hts (.fieldLink RX4 9 "RecordBench$RecordWriter" "makes" "[LRecordBench$Make;") (by decide +kernel)) (fun _ h9 => h9) rfl hin rfl (by decide +kernel) (rf_narA rfl _) dX4_init_6 (fun H locs hp => ?_)
    obtain ⟨st_31, est_31, hf⟩ := nam_some hf
    rw [← est_31] at hp
    have hm := hm.wP est_31
    refine W.widen (k := qn st_31 - qn st) (n := qs st_31 - qs st) (by rw [est_31]; exact Nat.le_refl _) (by rw [est_31]; exact Nat.le_refl _) ?_
    have hk_30 : qk st_31 h0 = 7 := by rw [est_31]; exact hk_30
    refine lv_aload_n hx hb dX4_init_9 rfl (lv_at hl 0 rfl) ?_
    refine lv_bipush (v := 8) hx hb dX4_init_10 (by decide) ?_
    obtain ⟨g_32, hf⟩ := gd_some hf
    have lthk_30 := hp.2.2.1.lt (i := h0) (by rw [hk_30]; decide)
    obtain ⟨st_33, est_33, hf⟩ := nam_some hf
    have hmr := mo_X4_init_15 h0 _ _ _ hf
    refine q_newq (kd := 25) (t0 := 4) (E := RX2) hx hb hown (hts (.classLink RX4 15 RX2) (by decide +kernel)) (hN.2 RX2 (by decide)) hK hp hA (by decide) rfl g_32.1 g_32.2 (by show qn st_31 - qn st + 1 ≤ qn st' - qn st; have := hmr.1; have := hm.1; have := (wN_n est_33).1; omega) (by show qs st_31 - qs st + (8 : Int32).toNatClampNeg ≤ qs st' - qs st; have := hmr.2.1; have := hm.2.1; have := (wN_n est_33).2; omega) dX4_init_12 (fun H hp => ?_)
    rw [← est_33] at hp
    have hk_30 : qk st_33 h0 = 7 := by rw [est_33]; exact (va_up_ne _ _ (Nat.ne_of_lt lthk_30)).trans hk_30
    refine W.widen (k := qn st_33 - qn st) (n := qs st_33 - qs st) (by have := hm.1; have := (wN_n est_33).1; omega) (by have := hm.2.1; have := (wN_n est_33).2; omega) ?_
    have hm := hm.wN est_33
    exact J15 ((some (qn st_31)), st_33) _ _ _ ⟨hf, hp, (lv_sub hl [0] rfl), hm⟩
  unfold fX4_init at hf
  refine lv_aload_n hx hb dX4_init_0 rfl (lv_at hl 0 rfl) ?_
  refine W.objInit hx hb hown (hts (.methodLink RX4 3 objectInit) (by decide +kernel)) (hts (.instanceMethod objectInit) (by decide +kernel)) (hts (.code objectInit ⟨#[0xb1]⟩ 1 none) (by decide +kernel)) rfl (by rw [hml]; exact hl.1) rfl dX4_init_1 (Nat.le_of_ble_eq_true rfl) (Nat.le_of_ble_eq_true rfl) ?_
  refine W.eq (g2 := F0 m 4 ls []) rfl ?_
  exact J4 (p0, st) _ _ _ ⟨hf, hp, (lv_sub hl [0, 1] rfl), hm⟩
noncomputable def fX7_init_15 (h0 : Nat)  (s0 : Option Nat) (gs : CS) : Option (CS) := gd (qk gs h0 = 10) (nam (wP gs h0 1 s0) (fun st_2 => some st_2))
set_option maxHeartbeats 1000000 in
theorem mo_X7_init_15 (h0 : Nat)   (s0 : Option Nat) (gs : CS) (st' : CS) (hf : fX7_init_15 h0 s0 gs = some st') : Mo gs st' := by
  unfold fX7_init_15 at hf
  have hm : Mo gs gs := Mo.rf
  obtain ⟨hk_1, hf⟩ := gd_some hf
  obtain ⟨st_2, est_2, hf⟩ := nam_some hf
  have hm := hm.wP est_2
  have e2 := Option.some.inj hf
  exact e2 ▸ hm
noncomputable def fX7_init_4 (h0 : Nat)  (l1 : Option Nat) (gs : CS) : Option (CS) := gd (qk gs h0 = 10) (nam (wP gs h0 0 l1) (fun st_4 => gd (¬ (1024 : Int32) < 0 ∧ (1024 : Int32).toNatClampNeg * 4 ≤ 536870912) (nam (wN st_4 21 (1024 : Int32).toNatClampNeg (1024 : Int32).toNatClampNeg) (fun st_6 => fX7_init_15 h0 (some (qn st_4)) st_6))))
set_option maxHeartbeats 1000000 in
theorem mo_X7_init_4 (h0 : Nat)   (l1 : Option Nat) (gs : CS) (st' : CS) (hf : fX7_init_4 h0 l1 gs = some st') : Mo gs st' := by
  unfold fX7_init_4 at hf
  have hm : Mo gs gs := Mo.rf
  obtain ⟨hk_3, hf⟩ := gd_some hf
  obtain ⟨st_4, est_4, hf⟩ := nam_some hf
  have hm := hm.wP est_4
  obtain ⟨g_5, hf⟩ := gd_some hf
  obtain ⟨st_6, est_6, hf⟩ := nam_some hf
  have hm := hm.wN est_6
  exact hm.tr (mo_X7_init_15 h0 (some (qn st_4)) st_6 _ hf)
noncomputable def fX7_init (h0 : Nat) (p0 : Option Nat) (st : CS) : Option (CS) := fX7_init_4 h0 p0 st
set_option maxHeartbeats 1000000 in
theorem mo_X7_init (h0 : Nat) (p0 : Option Nat) (st : CS) (st' : CS) (hf : fX7_init h0 p0 st = some st') : Mo st st' := by
  unfold fX7_init at hf
  have hm : Mo st st := Mo.rf
  exact hm.tr (mo_X7_init_4 h0 p0 st _ hf)
def wq_X7_init : List Cond := .code yX7_init cX7_init 2 none :: (([.methodLink RX7 3 objectInit, .instanceMethod objectInit, .code objectInit ⟨#[0xb1]⟩ 1 none, .fieldLink RX7 9 "RecordBench$Walks" "makes" "[LRecordBench$Make;", .fieldLink RX7 15 "RecordBench$Walks" "seen" "[I", .arrayClass .int] : List Cond) ++ wsX70)
set_option maxHeartbeats 4000000 in
set_option maxRecDepth 100000 in
theorem c_X7_init (l : Launch) (dC : Nat → ClassId) (dI : Nat → Nat → Nat) (ka ad : Nat → Nat) (ct : Nat → ClassId) (h0 : Nat) (p0 : Option Nat) (st st' : CS) (hf : fX7_init h0 p0 st = some st') (sz : Nat) : Met l yX7_init wq_X7_init ({ frames := 1, cells := (qn st' - qn st), slots := (qs st' - qs st), locals := 16 }) (va_Pc [.ref (ad h0), va_rf (Option.map ad p0)] (PrC (dC, dI) ct ka ad st sz)) (va_Qv (fun (_ : Unit) => True) (fun _ => CB (dC, dI) ct ka ad st' (aC ad st sz)) (aC ad st sz)) (qn st' - qn st) (qs st' - qs st) (aC ad st sz) := by
  refine Met.ofW (cc := cX7_init) (maxL := 2) (ret := none) (by decide) rfl ?_
  intro p e s m args below meth c s₁ B hml hv
  obtain ⟨rfl, hsz, hw0, hK, hN, hZ, hC, hR, hL, hw1, hw2⟩ := hv
  have hx := B.exec
  have hb := B.bytes
  have hr := B.returns
  have hts := atoms_spec (ws := wq_X7_init) B.pre
  have hown : s.vm.findClass RX7 = some m.cls := findClass_of_methodNamed B.named
  have hin : meth.name = "<init>" := (name_of_methodNamed B.named B.method).1
  have iRX7 : ∀ w ∈ u_ws RX7 TX7 2, w ∈ wq_X7_init := fun w h => List.mem_cons_of_mem _ (List.mem_append_right _ h)
  subst hsz
  have hp : Cp (dC, dI) ka ad ct (aC ad st s.heap.size) s.heap st s.heap [] := ⟨fun i a b => ⟨hw0 i a b, Or.inl ⟨i, a, b, rfl⟩⟩, va_S.rf, hw1, hw2⟩
  generalize hAe : aC ad st s.heap.size = A at hp hZ hC ⊢
  have hA : ∀ q : Nat, s.heap.size ≤ q → A q := fun q h => by rw [← hAe]; exact Or.inr h
  have hl := lv_entry ([.ref (ad h0), va_rf (Option.map ad p0)]) (n := 2) (by simp [lg_sl, rf_cat, vc_i, vc_l, vc_r, vc_n])
  rw [lg_entry_eq]
  generalize (lg_sl ([.ref (ad h0), va_rf (Option.map ad p0)]) ++ List.replicate (2 - (lg_sl ([.ref (ad h0), va_rf (Option.map ad p0)])).length) Slot.unset).toArray = ls at hl ⊢
  have hl : lv_has ls 2 [(0, .ref (ad h0)), (1, va_rf (Option.map ad p0))] := by simpa [lv_args, rf_cat, vc_i, vc_l, vc_r, vc_n] using hl
  have hm : Mo st st := Mo.rf
  refine W.widen (k := qn st - qn st) (n := qs st - qs st) (Nat.zero_le _) (Nat.zero_le _) ?_
  refine W_blkA (fun (u : (Option Nat) × CS) H locs ls => match u with | (s0, gs) => fX7_init_15 h0 s0 gs = some st' ∧ Cp (dC, dI) ka ad ct A s.heap gs H locs ∧ lv_has ls 2 [] ∧ Mo st gs) (fun (u : (Option Nat) × CS) ls => match u with | (s0, gs) => F0 m 15 ls [va_rf (Option.map ad s0), .ref (ad h0)]) (fun (u : (Option Nat) × CS) => match u with | (s0, gs) => qn gs - qn st) (fun (u : (Option Nat) × CS) => match u with | (s0, gs) => qs gs - qs st) ?_ (fun J15 => ?_)
  · intro u H locs ls hu
    obtain ⟨s0, gs⟩ := u
    obtain ⟨hf, hp, hl, hm⟩ := hu
    show W p l e _ s m _ below meth c _ _ (qn gs - qn st) (qs gs - qs st) _ (F0 m 15 ls [va_rf (Option.map ad s0), .ref (ad h0)])
    unfold fX7_init_15 at hf
    obtain ⟨hk_1, hf⟩ := gd_some hf
    refine q_pFp (ci := 9) (C := RX7) (T := TX7) (N := 2) (k := 1) (v := s0) (ty := (.array .int)) hx hb hts iRX7 tyX7 tyX7_ok nmX7 hown hK hp (hp.2.2.1.ge hk_1 (by decide) (by decide) (by decide)) hk_1 (by decide) rfl rfl (by decide) rfl (hts (.fieldLink RX7 15 "RecordBench$Walks" "seen" "[I") (by decide +kernel)) (fun _ h9 => h9) rfl hin rfl (by decide +kernel) (rf_narA rfl _) dX7_init_15 (fun H locs hp => ?_)
    obtain ⟨st_2, est_2, hf⟩ := nam_some hf
    rw [← est_2] at hp
    have hm := hm.wP est_2
    refine W.widen (k := qn st_2 - qn st) (n := qs st_2 - qs st) (by rw [est_2]; exact Nat.le_refl _) (by rw [est_2]; exact Nat.le_refl _) ?_
    have hk_1 : qk st_2 h0 = 10 := by rw [est_2]; exact hk_1
    have e2 := Option.some.inj hf
    refine W.widen (k := qn st' - qn st) (n := qs st' - qs st) (by rw [e2]; exact Nat.le_refl _) (by rw [e2]; exact Nat.le_refl _) ?_
    exact W.vret hx hb hr (fun t ht hW => ⟨⟨(), rfl, trivial, Cp.end e2 hp ht⟩, hp.2.1.F ht⟩) hp.2.1.2.2 dX7_init_18
  refine W_blkA (fun (u : (Option Nat) × CS) H locs ls => match u with | (l1, gs) => fX7_init_4 h0 l1 gs = some st' ∧ Cp (dC, dI) ka ad ct A s.heap gs H locs ∧ lv_has ls 2 [(0, .ref (ad h0)), (1, va_rf (Option.map ad l1))] ∧ Mo st gs) (fun (u : (Option Nat) × CS) ls => match u with | (l1, gs) => F0 m 4 ls []) (fun (u : (Option Nat) × CS) => match u with | (l1, gs) => qn gs - qn st) (fun (u : (Option Nat) × CS) => match u with | (l1, gs) => qs gs - qs st) ?_ (fun J4 => ?_)
  · intro u H locs ls hu
    obtain ⟨l1, gs⟩ := u
    obtain ⟨hf, hp, hl, hm⟩ := hu
    show W p l e _ s m _ below meth c _ _ (qn gs - qn st) (qs gs - qs st) _ (F0 m 4 ls [])
    unfold fX7_init_4 at hf
    refine lv_aload_n hx hb dX7_init_4 rfl (lv_at hl 0 rfl) ?_
    refine o_aload_n hx hb dX7_init_5 rfl (lv_at hl 1 rfl) ?_
    obtain ⟨hk_3, hf⟩ := gd_some hf
    refine q_pFp (ci := 9) (C := RX7) (T := TX7) (N := 2) (k := 0) (v := l1) (ty := (.array (.object "RecordBench$Make"))) hx hb hts iRX7 tyX7 tyX7_ok nmX7 hown hK hp (hp.2.2.1.ge hk_3 (by decide) (by decide) (by decide)) hk_3 (by decide) rfl rfl (by decide) rfl (hts (.fieldLink RX7 9 "RecordBench$Walks" "makes" "[LRecordBench$Make;") (by decide +kernel)) (fun _ h9 => h9) rfl hin rfl (by decide +kernel) (rf_narA rfl _) dX7_init_6 (fun H locs hp => ?_)
    obtain ⟨st_4, est_4, hf⟩ := nam_some hf
    rw [← est_4] at hp
    have hm := hm.wP est_4
    refine W.widen (k := qn st_4 - qn st) (n := qs st_4 - qs st) (by rw [est_4]; exact Nat.le_refl _) (by rw [est_4]; exact Nat.le_refl _) ?_
    have hk_3 : qk st_4 h0 = 10 := by rw [est_4]; exact hk_3
    refine lv_aload_n hx hb dX7_init_9 rfl (lv_at hl 0 rfl) ?_
    refine lv_sipush (v := 1024) hx hb dX7_init_10 (by decide) ?_
    obtain ⟨g_5, hf⟩ := gd_some hf
    have lthk_3 := hp.2.2.1.lt (i := h0) (by rw [hk_3]; decide)
    obtain ⟨st_6, est_6, hf⟩ := nam_some hf
    have hmr := mo_X7_init_15 h0 _ _ _ hf
    refine q_newa (kd := 21) (t0 := 0) (ty := .int) (atype := .int) hx hb (hts (.arrayClass .int) (by decide +kernel)) rfl hK hp hA (by decide) (by decide) rfl (fun _ => rfl) rfl g_5.1 g_5.2 (by show qn st_4 - qn st + 1 ≤ qn st' - qn st; have := hmr.1; have := hm.1; have := (wN_n est_6).1; omega) (by show qs st_4 - qs st + (1024 : Int32).toNatClampNeg ≤ qs st' - qs st; have := hmr.2.1; have := hm.2.1; have := (wN_n est_6).2; omega) dX7_init_13 (fun H hp => ?_)
    rw [← est_6] at hp
    have hk_3 : qk st_6 h0 = 10 := by rw [est_6]; exact (va_up_ne _ _ (Nat.ne_of_lt lthk_3)).trans hk_3
    refine W.widen (k := qn st_6 - qn st) (n := qs st_6 - qs st) (by have := hm.1; have := (wN_n est_6).1; omega) (by have := hm.2.1; have := (wN_n est_6).2; omega) ?_
    have hm := hm.wN est_6
    exact J15 ((some (qn st_4)), st_6) _ _ _ ⟨hf, hp, (lv_sub hl [] rfl), hm⟩
  unfold fX7_init at hf
  refine lv_aload_n hx hb dX7_init_0 rfl (lv_at hl 0 rfl) ?_
  refine W.objInit hx hb hown (hts (.methodLink RX7 3 objectInit) (by decide +kernel)) (hts (.instanceMethod objectInit) (by decide +kernel)) (hts (.code objectInit ⟨#[0xb1]⟩ 1 none) (by decide +kernel)) rfl (by rw [hml]; exact hl.1) rfl dX7_init_1 (Nat.le_of_ble_eq_true rfl) (Nat.le_of_ble_eq_true rfl) ?_
  refine W.eq (g2 := F0 m 4 ls []) rfl ?_
  exact J4 (p0, st) _ _ _ ⟨hf, hp, (lv_sub hl [0, 1] rfl), hm⟩
noncomputable def fX8_init_152 (h0 : Nat)  (s0 : Option Nat) (gs : CS) : Option (CS) := gd (qk gs h0 = 11) (nam (wP gs h0 8 s0) (fun st_2 => nam (wI st_2 h0 9 0) (fun st_3 => nam (wI st_3 h0 10 (-1)) (fun st_4 => nam (wI st_4 h0 11 0) (fun st_5 => some st_5)))))
set_option maxHeartbeats 1000000 in
theorem mo_X8_init_152 (h0 : Nat)   (s0 : Option Nat) (gs : CS) (st' : CS) (hf : fX8_init_152 h0 s0 gs = some st') : Mo gs st' := by
  unfold fX8_init_152 at hf
  have hm : Mo gs gs := Mo.rf
  obtain ⟨hk_1, hf⟩ := gd_some hf
  obtain ⟨st_2, est_2, hf⟩ := nam_some hf
  have hm := hm.wP est_2
  obtain ⟨st_3, est_3, hf⟩ := nam_some hf
  have hm := hm.wI est_3
  obtain ⟨st_4, est_4, hf⟩ := nam_some hf
  have hm := hm.wI est_4
  obtain ⟨st_5, est_5, hf⟩ := nam_some hf
  have hm := hm.wI est_5
  have e2 := Option.some.inj hf
  exact e2 ▸ hm
noncomputable def fX8_init_145 (h0 : Nat)  (s0 : Option Nat) (gs : CS) : Option (CS) := ono s0 (fun a_6 => gd (qk gs a_6 = 8) (bnv (fX5_init a_6 256 gs) (fun st_9 => fX8_init_152 h0 s0 st_9)))
set_option maxHeartbeats 1000000 in
theorem mo_X8_init_145 (h0 : Nat)   (s0 : Option Nat) (gs : CS) (st' : CS) (hf : fX8_init_145 h0 s0 gs = some st') : Mo gs st' := by
  unfold fX8_init_145 at hf
  have hm : Mo gs gs := Mo.rf
  obtain ⟨a_6, ha_7, hf⟩ := ono_some hf
  obtain ⟨hk_8, hf⟩ := gd_some hf
  obtain ⟨st_9, hc_10, hf⟩ := bnv_some hf
  have hm := hm.tr (mo_X5_init a_6 256 _ _ hc_10)
  exact hm.tr (mo_X8_init_152 h0 s0 st_9 _ hf)
noncomputable def fX8_init_138 (h0 : Nat)  (s0 : Option Nat) (gs : CS) : Option (CS) := gd (qk gs h0 = 11) (nam (wP gs h0 7 s0) (fun st_13 => nam (wN st_13 8 0 2) (fun st_14 => fX8_init_145 h0 (some (qn st_13)) st_14)))
set_option maxHeartbeats 1000000 in
theorem mo_X8_init_138 (h0 : Nat)   (s0 : Option Nat) (gs : CS) (st' : CS) (hf : fX8_init_138 h0 s0 gs = some st') : Mo gs st' := by
  unfold fX8_init_138 at hf
  have hm : Mo gs gs := Mo.rf
  obtain ⟨hk_12, hf⟩ := gd_some hf
  obtain ⟨st_13, est_13, hf⟩ := nam_some hf
  have hm := hm.wP est_13
  obtain ⟨st_14, est_14, hf⟩ := nam_some hf
  have hm := hm.wN est_14
  exact hm.tr (mo_X8_init_145 h0 (some (qn st_13)) st_14 _ hf)
noncomputable def fX8_init_131 (h0 : Nat)  (s0 : Option Nat) (gs : CS) : Option (CS) := ono s0 (fun a_15 => gd (qk gs a_15 = 8) (bnv (fX5_init a_15 256 gs) (fun st_18 => fX8_init_138 h0 s0 st_18)))
set_option maxHeartbeats 1000000 in
theorem mo_X8_init_131 (h0 : Nat)   (s0 : Option Nat) (gs : CS) (st' : CS) (hf : fX8_init_131 h0 s0 gs = some st') : Mo gs st' := by
  unfold fX8_init_131 at hf
  have hm : Mo gs gs := Mo.rf
  obtain ⟨a_15, ha_16, hf⟩ := ono_some hf
  obtain ⟨hk_17, hf⟩ := gd_some hf
  obtain ⟨st_18, hc_19, hf⟩ := bnv_some hf
  have hm := hm.tr (mo_X5_init a_15 256 _ _ hc_19)
  exact hm.tr (mo_X8_init_138 h0 s0 st_18 _ hf)
noncomputable def fX8_init_124 (h0 : Nat)  (s0 : Option Nat) (gs : CS) : Option (CS) := gd (qk gs h0 = 11) (nam (wP gs h0 6 s0) (fun st_22 => nam (wN st_22 8 0 2) (fun st_23 => fX8_init_131 h0 (some (qn st_22)) st_23)))
set_option maxHeartbeats 1000000 in
theorem mo_X8_init_124 (h0 : Nat)   (s0 : Option Nat) (gs : CS) (st' : CS) (hf : fX8_init_124 h0 s0 gs = some st') : Mo gs st' := by
  unfold fX8_init_124 at hf
  have hm : Mo gs gs := Mo.rf
  obtain ⟨hk_21, hf⟩ := gd_some hf
  obtain ⟨st_22, est_22, hf⟩ := nam_some hf
  have hm := hm.wP est_22
  obtain ⟨st_23, est_23, hf⟩ := nam_some hf
  have hm := hm.wN est_23
  exact hm.tr (mo_X8_init_131 h0 (some (qn st_22)) st_23 _ hf)
noncomputable def fX8_init_116 (h0 : Nat)  (s0 : Option Nat) (gs : CS) : Option (CS) := gd (qk gs h0 = 11) (ono s0 (fun a_25 => gd (qk gs a_25 = 10) (bnv (fX7_init a_25 (qP gs h0 2) gs) (fun st_28 => fX8_init_124 h0 s0 st_28))))
set_option maxHeartbeats 1000000 in
theorem mo_X8_init_116 (h0 : Nat)   (s0 : Option Nat) (gs : CS) (st' : CS) (hf : fX8_init_116 h0 s0 gs = some st') : Mo gs st' := by
  unfold fX8_init_116 at hf
  have hm : Mo gs gs := Mo.rf
  obtain ⟨hk_24, hf⟩ := gd_some hf
  obtain ⟨a_25, ha_26, hf⟩ := ono_some hf
  obtain ⟨hk_27, hf⟩ := gd_some hf
  obtain ⟨st_28, hc_29, hf⟩ := bnv_some hf
  have hm := hm.tr (mo_X7_init a_25 (qP gs h0 2) _ _ hc_29)
  exact hm.tr (mo_X8_init_124 h0 s0 st_28 _ hf)
noncomputable def fX8_init_109 (h0 : Nat)  (s0 : Option Nat) (gs : CS) : Option (CS) := gd (qk gs h0 = 11) (nam (wP gs h0 5 s0) (fun st_32 => nam (wN st_32 10 0 2) (fun st_33 => fX8_init_116 h0 (some (qn st_32)) st_33)))
set_option maxHeartbeats 1000000 in
theorem mo_X8_init_109 (h0 : Nat)   (s0 : Option Nat) (gs : CS) (st' : CS) (hf : fX8_init_109 h0 s0 gs = some st') : Mo gs st' := by
  unfold fX8_init_109 at hf
  have hm : Mo gs gs := Mo.rf
  obtain ⟨hk_31, hf⟩ := gd_some hf
  obtain ⟨st_32, est_32, hf⟩ := nam_some hf
  have hm := hm.wP est_32
  obtain ⟨st_33, est_33, hf⟩ := nam_some hf
  have hm := hm.wN est_33
  exact hm.tr (mo_X8_init_116 h0 (some (qn st_32)) st_33 _ hf)
noncomputable def fX8_init_101 (h0 : Nat)  (s0 : Option Nat) (gs : CS) : Option (CS) := gd (qk gs h0 = 11) (ono s0 (fun a_35 => gd (qk gs a_35 = 7) (bnv (fX4_init a_35 (qP gs h0 2) gs) (fun st_38 => fX8_init_109 h0 s0 st_38))))
set_option maxHeartbeats 1000000 in
theorem mo_X8_init_101 (h0 : Nat)   (s0 : Option Nat) (gs : CS) (st' : CS) (hf : fX8_init_101 h0 s0 gs = some st') : Mo gs st' := by
  unfold fX8_init_101 at hf
  have hm : Mo gs gs := Mo.rf
  obtain ⟨hk_34, hf⟩ := gd_some hf
  obtain ⟨a_35, ha_36, hf⟩ := ono_some hf
  obtain ⟨hk_37, hf⟩ := gd_some hf
  obtain ⟨st_38, hc_39, hf⟩ := bnv_some hf
  have hm := hm.tr (mo_X4_init a_35 (qP gs h0 2) _ _ hc_39)
  exact hm.tr (mo_X8_init_109 h0 s0 st_38 _ hf)
noncomputable def fX8_init_94 (h0 : Nat)  (s0 : Option Nat) (gs : CS) : Option (CS) := gd (qk gs h0 = 11) (nam (wP gs h0 4 s0) (fun st_42 => nam (wN st_42 7 0 3) (fun st_43 => fX8_init_101 h0 (some (qn st_42)) st_43)))
set_option maxHeartbeats 1000000 in
theorem mo_X8_init_94 (h0 : Nat)   (s0 : Option Nat) (gs : CS) (st' : CS) (hf : fX8_init_94 h0 s0 gs = some st') : Mo gs st' := by
  unfold fX8_init_94 at hf
  have hm : Mo gs gs := Mo.rf
  obtain ⟨hk_41, hf⟩ := gd_some hf
  obtain ⟨st_42, est_42, hf⟩ := nam_some hf
  have hm := hm.wP est_42
  obtain ⟨st_43, est_43, hf⟩ := nam_some hf
  have hm := hm.wN est_43
  exact hm.tr (mo_X8_init_101 h0 (some (qn st_42)) st_43 _ hf)
noncomputable def fX8_init_86 (h0 : Nat)  (s0 : Option Nat) (gs : CS) : Option (CS) := gd (qk gs h0 = 11) (ono s0 (fun a_45 => gd (qk gs a_45 = 6) (bnv (fX3_init a_45 (qP gs h0 2) gs) (fun st_48 => fX8_init_94 h0 s0 st_48))))
set_option maxHeartbeats 1000000 in
theorem mo_X8_init_86 (h0 : Nat)   (s0 : Option Nat) (gs : CS) (st' : CS) (hf : fX8_init_86 h0 s0 gs = some st') : Mo gs st' := by
  unfold fX8_init_86 at hf
  have hm : Mo gs gs := Mo.rf
  obtain ⟨hk_44, hf⟩ := gd_some hf
  obtain ⟨a_45, ha_46, hf⟩ := ono_some hf
  obtain ⟨hk_47, hf⟩ := gd_some hf
  obtain ⟨st_48, hc_49, hf⟩ := bnv_some hf
  have hm := hm.tr (mo_X3_init a_45 (qP gs h0 2) _ _ hc_49)
  exact hm.tr (mo_X8_init_94 h0 s0 st_48 _ hf)
noncomputable def fX8_init_79 (h0 : Nat)  (s0 : Option Nat) (gs : CS) : Option (CS) := gd (qk gs h0 = 11) (nam (wP gs h0 3 s0) (fun st_52 => nam (wN st_52 6 0 4) (fun st_53 => fX8_init_86 h0 (some (qn st_52)) st_53)))
set_option maxHeartbeats 1000000 in
theorem mo_X8_init_79 (h0 : Nat)   (s0 : Option Nat) (gs : CS) (st' : CS) (hf : fX8_init_79 h0 s0 gs = some st') : Mo gs st' := by
  unfold fX8_init_79 at hf
  have hm : Mo gs gs := Mo.rf
  obtain ⟨hk_51, hf⟩ := gd_some hf
  obtain ⟨st_52, est_52, hf⟩ := nam_some hf
  have hm := hm.wP est_52
  obtain ⟨st_53, est_53, hf⟩ := nam_some hf
  have hm := hm.wN est_53
  exact hm.tr (mo_X8_init_86 h0 (some (qn st_52)) st_53 _ hf)
noncomputable def fX8_init_67 (h0 : Nat)  (s0 : Option Nat) (gs : CS) : Option (CS) := gd (qk gs h0 = 11) (ono s0 (fun a_55 => gd (qk gs a_55 = 9) (bnv (fX6_init a_55 (qP gs h0 0) (qP gs h0 2) gs) (fun st_58 => fX8_init_79 h0 s0 st_58))))
set_option maxHeartbeats 1000000 in
theorem mo_X8_init_67 (h0 : Nat)   (s0 : Option Nat) (gs : CS) (st' : CS) (hf : fX8_init_67 h0 s0 gs = some st') : Mo gs st' := by
  unfold fX8_init_67 at hf
  have hm : Mo gs gs := Mo.rf
  obtain ⟨hk_54, hf⟩ := gd_some hf
  obtain ⟨a_55, ha_56, hf⟩ := ono_some hf
  obtain ⟨hk_57, hf⟩ := gd_some hf
  obtain ⟨st_58, hc_59, hf⟩ := bnv_some hf
  have hm := hm.tr (mo_X6_init a_55 (qP gs h0 0) (qP gs h0 2) _ _ hc_59)
  exact hm.tr (mo_X8_init_79 h0 s0 st_58 _ hf)
noncomputable def fX8_init_60 (h0 : Nat)  (s0 : Option Nat) (gs : CS) : Option (CS) := gd (qk gs h0 = 11) (nam (wP gs h0 2 s0) (fun st_62 => nam (wN st_62 9 0 6) (fun st_63 => fX8_init_67 h0 (some (qn st_62)) st_63)))
set_option maxHeartbeats 1000000 in
theorem mo_X8_init_60 (h0 : Nat)   (s0 : Option Nat) (gs : CS) (st' : CS) (hf : fX8_init_60 h0 s0 gs = some st') : Mo gs st' := by
  unfold fX8_init_60 at hf
  have hm : Mo gs gs := Mo.rf
  obtain ⟨hk_61, hf⟩ := gd_some hf
  obtain ⟨st_62, est_62, hf⟩ := nam_some hf
  have hm := hm.wP est_62
  obtain ⟨st_63, est_63, hf⟩ := nam_some hf
  have hm := hm.wN est_63
  exact hm.tr (mo_X8_init_67 h0 (some (qn st_62)) st_63 _ hf)
noncomputable def fX8_init_47 (h0 : Nat) (k28 : Int32 → CS → Option (CS)) (l1 : Int32) (s0 : Option Nat) (s1 : Int32) (s2 : Option Nat) (gs : CS) : Option (CS) := ono s0 (fun a_64 => gd (qk gs a_64 = 8) (ono s2 (fun a_67 => gd (qk gs a_67 = 23) (gd (vp_in s1 (ql gs a_67)) (nam (wP gs a_67 s1.toNatClampNeg (some a_64)) (fun st_71 => nam (l1 + 1) (fun v_72 => k28 v_72 st_71)))))))
set_option maxHeartbeats 1000000 in
theorem mo_X8_init_47 (h0 : Nat) (k28 : Int32 → CS → Option (CS)) (hk28 : ∀ (l1 : Int32) (gs : CS) (st' : CS), k28 l1 gs = some st' → Mo gs st') (l1 : Int32) (s0 : Option Nat) (s1 : Int32) (s2 : Option Nat) (gs : CS) (st' : CS) (hf : fX8_init_47 h0 k28 l1 s0 s1 s2 gs = some st') : Mo gs st' := by
  unfold fX8_init_47 at hf
  have hm : Mo gs gs := Mo.rf
  obtain ⟨a_64, ha_65, hf⟩ := ono_some hf
  obtain ⟨hk_66, hf⟩ := gd_some hf
  obtain ⟨a_67, ha_68, hf⟩ := ono_some hf
  obtain ⟨hk_69, hf⟩ := gd_some hf
  obtain ⟨g_70, hf⟩ := gd_some hf
  obtain ⟨st_71, est_71, hf⟩ := nam_some hf
  have hm := hm.wP est_71
  obtain ⟨v_72, ev_72, hf⟩ := nam_some hf
  exact hm.tr (hk28 v_72 st_71 _ hf)
noncomputable def fX8_init_41 (h0 : Nat) (k28 : Int32 → CS → Option (CS)) (l1 : Int32) (s0 : Option Nat) (s1 : Int32) (s2 : Option Nat) (gs : CS) : Option (CS) := ono s0 (fun a_73 => gd (qk gs a_73 = 8) (bnv (fX5_init a_73 120 gs) (fun st_76 => fX8_init_47 h0 k28 l1 s0 s1 s2 st_76)))
set_option maxHeartbeats 1000000 in
theorem mo_X8_init_41 (h0 : Nat) (k28 : Int32 → CS → Option (CS)) (hk28 : ∀ (l1 : Int32) (gs : CS) (st' : CS), k28 l1 gs = some st' → Mo gs st') (l1 : Int32) (s0 : Option Nat) (s1 : Int32) (s2 : Option Nat) (gs : CS) (st' : CS) (hf : fX8_init_41 h0 k28 l1 s0 s1 s2 gs = some st') : Mo gs st' := by
  unfold fX8_init_41 at hf
  have hm : Mo gs gs := Mo.rf
  obtain ⟨a_73, ha_74, hf⟩ := ono_some hf
  obtain ⟨hk_75, hf⟩ := gd_some hf
  obtain ⟨st_76, hc_77, hf⟩ := bnv_some hf
  have hm := hm.tr (mo_X5_init a_73 120 _ _ hc_77)
  exact hm.tr (mo_X8_init_47 h0 k28 hk28 l1 s0 s1 s2 st_76 _ hf)
noncomputable def fX8_init_28 (h0 : Nat)  : Nat → Int32 → CS → Option (CS)
  | 0 => fun _ _ => none
  | n + 1 => fun l1 gs => pif (4 ≤ l1) (gd (¬ (8 : Int32) < 0 ∧ (8 : Int32).toNatClampNeg * 4 ≤ 536870912) (nam (wN gs 24 (8 : Int32).toNatClampNeg (8 : Int32).toNatClampNeg) (fun st_81 => fX8_init_60 h0 (some (qn gs)) st_81))) (gd (qk gs h0 = 11) (nam (wN gs 8 0 2) (fun st_83 => fX8_init_41 h0 (fX8_init_28 h0 n) l1 (some (qn gs)) l1 (qP gs h0 1) st_83)))
theorem fX8_init_28_z (h0 : Nat)  (l1 : Int32) (gs : CS) : fX8_init_28 h0 0 l1 gs = none := rfl
theorem fX8_init_28_s (h0 : Nat)  (n : Nat) (l1 : Int32) (gs : CS) : fX8_init_28 h0 (n + 1) l1 gs = pif (4 ≤ l1) (gd (¬ (8 : Int32) < 0 ∧ (8 : Int32).toNatClampNeg * 4 ≤ 536870912) (nam (wN gs 24 (8 : Int32).toNatClampNeg (8 : Int32).toNatClampNeg) (fun st_81 => fX8_init_60 h0 (some (qn gs)) st_81))) (gd (qk gs h0 = 11) (nam (wN gs 8 0 2) (fun st_83 => fX8_init_41 h0 (fX8_init_28 h0 n) l1 (some (qn gs)) l1 (qP gs h0 1) st_83))) := rfl
set_option maxHeartbeats 1000000 in
theorem mo_X8_init_28 (h0 : Nat)   : ∀ (n : Nat) (l1 : Int32) (gs : CS) (st' : CS), fX8_init_28 h0 n l1 gs = some st' → Mo gs st' := by
  intro n
  induction n with
  | zero =>
    intro l1 gs st' hf
    rw [fX8_init_28_z] at hf
    cases hf
  | succ n ih =>
    intro l1 gs st' hf
    rw [fX8_init_28_s] at hf
    have hm : Mo gs gs := Mo.rf
    rcases pif_or hf with ⟨c_79, hf⟩ | ⟨c_79, hf⟩
    · obtain ⟨g_80, hf⟩ := gd_some hf
      obtain ⟨st_81, est_81, hf⟩ := nam_some hf
      have hm := hm.wN est_81
      exact hm.tr (mo_X8_init_60 h0 (some (qn gs)) st_81 _ hf)
    · obtain ⟨hk_82, hf⟩ := gd_some hf
      obtain ⟨st_83, est_83, hf⟩ := nam_some hf
      have hm := hm.wN est_83
      exact hm.tr (mo_X8_init_41 h0 (fX8_init_28 h0 n) ih l1 (some (qn gs)) l1 (qP gs h0 1) st_83 _ hf)
noncomputable def fX8_init_23 (h0 : Nat)  (s0 : Option Nat) (gs : CS) : Option (CS) := gd (qk gs h0 = 11) (nam (wP gs h0 1 s0) (fun st_85 => fX8_init_28 h0 fuel 0 st_85))
set_option maxHeartbeats 1000000 in
theorem mo_X8_init_23 (h0 : Nat)   (s0 : Option Nat) (gs : CS) (st' : CS) (hf : fX8_init_23 h0 s0 gs = some st') : Mo gs st' := by
  unfold fX8_init_23 at hf
  have hm : Mo gs gs := Mo.rf
  obtain ⟨hk_84, hf⟩ := gd_some hf
  obtain ⟨st_85, est_85, hf⟩ := nam_some hf
  have hm := hm.wP est_85
  exact hm.tr (mo_X8_init_28 h0 fuel 0 st_85 _ hf)
noncomputable def fX8_init_15 (h0 : Nat)  (s0 : Option Nat) (gs : CS) : Option (CS) := gd (qk gs h0 = 11) (nam (wP gs h0 0 s0) (fun st_87 => gd (¬ (4 : Int32) < 0 ∧ (4 : Int32).toNatClampNeg * 4 ≤ 536870912) (nam (wN st_87 23 (4 : Int32).toNatClampNeg (4 : Int32).toNatClampNeg) (fun st_89 => fX8_init_23 h0 (some (qn st_87)) st_89))))
set_option maxHeartbeats 1000000 in
theorem mo_X8_init_15 (h0 : Nat)   (s0 : Option Nat) (gs : CS) (st' : CS) (hf : fX8_init_15 h0 s0 gs = some st') : Mo gs st' := by
  unfold fX8_init_15 at hf
  have hm : Mo gs gs := Mo.rf
  obtain ⟨hk_86, hf⟩ := gd_some hf
  obtain ⟨st_87, est_87, hf⟩ := nam_some hf
  have hm := hm.wP est_87
  obtain ⟨g_88, hf⟩ := gd_some hf
  obtain ⟨st_89, est_89, hf⟩ := nam_some hf
  have hm := hm.wN est_89
  exact hm.tr (mo_X8_init_23 h0 (some (qn st_87)) st_89 _ hf)
noncomputable def fX8_init_8 (h0 : Nat)  (s0 : Option Nat) (gs : CS) : Option (CS) := ono s0 (fun a_90 => gd (qk gs a_90 = 8) (bnv (fX5_init a_90 400 gs) (fun st_93 => fX8_init_15 h0 s0 st_93)))
set_option maxHeartbeats 1000000 in
theorem mo_X8_init_8 (h0 : Nat)   (s0 : Option Nat) (gs : CS) (st' : CS) (hf : fX8_init_8 h0 s0 gs = some st') : Mo gs st' := by
  unfold fX8_init_8 at hf
  have hm : Mo gs gs := Mo.rf
  obtain ⟨a_90, ha_91, hf⟩ := ono_some hf
  obtain ⟨hk_92, hf⟩ := gd_some hf
  obtain ⟨st_93, hc_94, hf⟩ := bnv_some hf
  have hm := hm.tr (mo_X5_init a_90 400 _ _ hc_94)
  exact hm.tr (mo_X8_init_15 h0 s0 st_93 _ hf)
noncomputable def fX8_init_4 (h0 : Nat)  (gs : CS) : Option (CS) := nam (wN gs 8 0 2) (fun st_96 => fX8_init_8 h0 (some (qn gs)) st_96)
set_option maxHeartbeats 1000000 in
theorem mo_X8_init_4 (h0 : Nat)   (gs : CS) (st' : CS) (hf : fX8_init_4 h0 gs = some st') : Mo gs st' := by
  unfold fX8_init_4 at hf
  have hm : Mo gs gs := Mo.rf
  obtain ⟨st_96, est_96, hf⟩ := nam_some hf
  have hm := hm.wN est_96
  exact hm.tr (mo_X8_init_8 h0 (some (qn gs)) st_96 _ hf)
noncomputable def fX8_init (h0 : Nat) (st : CS) : Option (CS) := fX8_init_4 h0 st
set_option maxHeartbeats 1000000 in
theorem mo_X8_init (h0 : Nat) (st : CS) (st' : CS) (hf : fX8_init h0 st = some st') : Mo st st' := by
  unfold fX8_init at hf
  have hm : Mo st st := Mo.rf
  exact hm.tr (mo_X8_init_4 h0 st _ hf)
def wq_X8_init : List Cond := .code yX8_init cX8_init 2 none :: (([.methodLink RX8 1 objectInit, .instanceMethod objectInit, .code objectInit ⟨#[0xb1]⟩ 1 none, .fieldLink RX8 14 "RecordBench" "tape" "LRecordBench$Row;", .fieldLink RX8 18 "RecordBench" "records" "[LRecordBench$Row;", .fieldLink RX8 24 "RecordBench" "makes" "[LRecordBench$Make;", .fieldLink RX8 33 "RecordBench" "texts" "LRecordBench$TextReader;", .fieldLink RX8 42 "RecordBench" "reader" "LRecordBench$RecordReader;", .fieldLink RX8 49 "RecordBench" "writer" "LRecordBench$RecordWriter;", .fieldLink RX8 56 "RecordBench" "walks" "LRecordBench$Walks;", .fieldLink RX8 60 "RecordBench" "fresh" "LRecordBench$Row;", .fieldLink RX8 63 "RecordBench" "work" "LRecordBench$Row;", .fieldLink RX8 66 "RecordBench" "latestFault" "I", .fieldLink RX8 70 "RecordBench" "latestPlace" "I", .fieldLink RX8 73 "RecordBench" "latestNumber" "I", .instanceMethod yX5_init, .initialized RX5, .methodLink RX8 11 yX5_init, .classLink RX8 7 RX5, .instantiable RX5 2, .instanceMethod yX7_init, .initialized RX7, .methodLink RX8 55 yX7_init, .classLink RX8 53 RX7, .instantiable RX7 2, .instanceMethod yX4_init, .initialized RX4, .methodLink RX8 48 yX4_init, .classLink RX8 46 RX4, .instantiable RX4 3, .instanceMethod yX3_init, .initialized RX3, .methodLink RX8 39 yX3_init, .classLink RX8 37 RX3, .instantiable RX3 4, .instanceMethod yX6_init, .initialized RX6, .methodLink RX8 30 yX6_init, .classLink RX8 28 RX6, .instantiable RX6 6, .classLink RX8 22 RX1, .code yX5_init cX5_init 2 none, .methodLink RX5 3 objectInit, .methodLink RX5 9 Lib.Math.max.name, .static Lib.Math.max.name, .initialized "java/lang/Math", .code Lib.Math.max.name Lib.Math.max.code 2 (some .int), .fieldLink RX5 15 "RecordBench$Row" "bytes" "[I", .fieldLink RX5 21 "RecordBench$Row" "size" "I", .arrayClass .int, .code yX7_init cX7_init 2 none, .methodLink RX7 3 objectInit, .fieldLink RX7 9 "RecordBench$Walks" "makes" "[LRecordBench$Make;", .fieldLink RX7 15 "RecordBench$Walks" "seen" "[I", .code yX4_init cX4_init 3 none, .methodLink RX4 3 objectInit, .fieldLink RX4 9 "RecordBench$RecordWriter" "makes" "[LRecordBench$Make;", .fieldLink RX4 17 "RecordBench$RecordWriter" "pieces" "[LRecordBench$Piece;", .fieldLink RX4 27 "RecordBench$RecordWriter" "nothing" "LRecordBench$Row;", .methodLink RX4 24 yX5_init, .instanceMethod yX2_init, .initialized RX2, .classLink RX4 22 RX5, .classLink RX4 15 RX2, .instantiable RX2 8, .code yX2_init cX2_init 1 none, .methodLink RX2 3 objectInit, .fieldLink RX2 9 "RecordBench$Piece" "number" "I", .fieldLink RX2 15 "RecordBench$Piece" "withLength" "Z", .fieldLink RX2 19 "RecordBench$Piece" "raw" "J", .fieldLink RX2 23 "RecordBench$Piece" "body" "I", .fieldLink RX2 26 "RecordBench$Piece" "end" "I", .fieldLink RX2 29 "RecordBench$Piece" "fault" "I", .fieldLink RX2 32 "RecordBench$Piece" "pos" "I", .fieldLink RX2 35 "RecordBench$Piece" "broken" "Z", .code yX3_init cX3_init 3 none, .methodLink RX3 3 objectInit, .fieldLink RX3 9 "RecordBench$RecordReader" "makes" "[LRecordBench$Make;", .fieldLink RX3 17 "RecordBench$RecordReader" "pieces" "[LRecordBench$Piece;", .fieldLink RX3 22 "RecordBench$RecordReader" "fault" "I", .fieldLink RX3 26 "RecordBench$RecordReader" "place" "I", .classLink RX3 15 RX2, .code yX6_init cX6_init 3 none, .methodLink RX6 3 objectInit, .fieldLink RX6 9 "RecordBench$TextReader" "tape" "LRecordBench$Row;", .fieldLink RX6 15 "RecordBench$TextReader" "makes" "[LRecordBench$Make;", .fieldLink RX6 22 "RecordBench$TextReader" "letters" "Ljava/lang/StringBuilder;", .fieldLink RX6 26 "RecordBench$TextReader" "pos" "I", .fieldLink RX6 30 "RecordBench$TextReader" "fault" "I", .fieldLink RX6 33 "RecordBench$TextReader" "place" "I", .instanceMethod yJ4_init_da8c8, .initialized RJ4, .methodLink RX6 21 yJ4_init_da8c8, .classLink RX6 19 RJ4, .instantiable RJ4 4, .code yJ4_init_da8c8 cJ4_init_da8c8 1 none, .instanceMethod yJ5_init_d00df, .initialized RJ5, .methodLink RJ4 1 yJ5_init_d00df, .code yJ5_init_d00df cJ5_init_d00df 2 none, .methodLink RJ5 3 objectInit, .fieldLink RJ5 18 "java/lang/String" "COMPACT_STRINGS" "Z", .fieldLink RJ5 15 "java/lang/AbstractStringBuilder" "value" "[B", .fieldLink RJ5 22 "java/lang/AbstractStringBuilder" "coder" "B", .arrayClass .byte] : List Cond) ++ wsX80 ++ wsX50 ++ wsX70 ++ wsX40 ++ wsX30 ++ wsX60 ++ wsX20 ++ wsJ40)
theorem gs_wq_X8_init_wsX50 : GoodIn wq_X8_init wsX50 := fun w h => ⟨List.mem_cons_of_mem _ (List.mem_append_left _ (List.mem_append_left _ (List.mem_append_left _ (List.mem_append_left _ (List.mem_append_left _ (List.mem_append_left _ (List.mem_append_right _ h))))))), (gt_wsX50 w h).2⟩
set_option maxRecDepth 20000 in
theorem gq_X8_init_X5_init_11 : GoodIn wq_X8_init (wq_X5_init) := (goodIn_ca (goodIn_r _ [42, 43, 2, 3, 44, 45, 46, 47, 48, 49, 50] rfl rfl) gs_wq_X8_init_wsX50)
theorem gs_wq_X8_init_wsX70 : GoodIn wq_X8_init wsX70 := fun w h => ⟨List.mem_cons_of_mem _ (List.mem_append_left _ (List.mem_append_left _ (List.mem_append_left _ (List.mem_append_left _ (List.mem_append_left _ (List.mem_append_right _ h)))))), (gt_wsX70 w h).2⟩
set_option maxRecDepth 20000 in
theorem gq_X8_init_X7_init_55 : GoodIn wq_X8_init (wq_X7_init) := (goodIn_ca (goodIn_r _ [51, 52, 2, 3, 53, 54, 50] rfl rfl) gs_wq_X8_init_wsX70)
theorem gs_wq_X8_init_wsX40 : GoodIn wq_X8_init wsX40 := fun w h => ⟨List.mem_cons_of_mem _ (List.mem_append_left _ (List.mem_append_left _ (List.mem_append_left _ (List.mem_append_left _ (List.mem_append_right _ h))))), (gt_wsX40 w h).2⟩
theorem gs_wq_X8_init_wsX20 : GoodIn wq_X8_init wsX20 := fun w h => ⟨List.mem_cons_of_mem _ (List.mem_append_left _ (List.mem_append_right _ h)), (gt_wsX20 w h).2⟩
set_option maxRecDepth 20000 in
theorem gq_X8_init_X4_init_48 : GoodIn wq_X8_init (wq_X4_init) := (goodIn_ca (goodIn_ca (goodIn_ca (goodIn_r _ [55, 56, 2, 3, 57, 58, 59, 16, 17, 60, 61, 62, 63, 20, 64, 65, 42, 43, 44, 45, 46, 47, 48, 49, 50, 66, 67, 68, 69, 70, 71, 72, 73, 74, 75] rfl rfl) gs_wq_X8_init_wsX40) gs_wq_X8_init_wsX50) gs_wq_X8_init_wsX20)
theorem gs_wq_X8_init_wsX30 : GoodIn wq_X8_init wsX30 := fun w h => ⟨List.mem_cons_of_mem _ (List.mem_append_left _ (List.mem_append_left _ (List.mem_append_left _ (List.mem_append_right _ h)))), (gt_wsX30 w h).2⟩
set_option maxRecDepth 20000 in
theorem gq_X8_init_X3_init_39 : GoodIn wq_X8_init (wq_X3_init) := (goodIn_ca (goodIn_ca (goodIn_r _ [76, 77, 2, 3, 78, 79, 80, 81, 61, 62, 82, 65, 66, 67, 68, 69, 70, 71, 72, 73, 74, 75] rfl rfl) gs_wq_X8_init_wsX30) gs_wq_X8_init_wsX20)
theorem gs_wq_X8_init_wsX60 : GoodIn wq_X8_init wsX60 := fun w h => ⟨List.mem_cons_of_mem _ (List.mem_append_left _ (List.mem_append_left _ (List.mem_append_right _ h))), (gt_wsX60 w h).2⟩
theorem gs_wq_X8_init_wsJ40 : GoodIn wq_X8_init wsJ40 := fun w h => ⟨List.mem_cons_of_mem _ (List.mem_append_right _ h), (gt_wsJ40 w h).2⟩
set_option maxRecDepth 20000 in
theorem gq_X8_init_X6_init_30 : GoodIn wq_X8_init (wq_X6_init) := (goodIn_ca (goodIn_ca (goodIn_r _ [83, 84, 2, 3, 85, 86, 87, 88, 89, 90, 91, 92, 93, 94, 95, 96, 97, 98, 99, 100, 101, 102, 103, 104, 105] rfl rfl) gs_wq_X8_init_wsX60) gs_wq_X8_init_wsJ40)
set_option maxHeartbeats 4000000 in
set_option maxRecDepth 100000 in
theorem c_X8_init (l : Launch) (dC : Nat → ClassId) (dI : Nat → Nat → Nat) (ka ad : Nat → Nat) (ct : Nat → ClassId) (h0 : Nat) (st st' : CS) (hf : fX8_init h0 st = some st') (sz : Nat) : Met l yX8_init wq_X8_init ({ frames := 4, cells := (qn st' - qn st), slots := (qs st' - qs st), locals := 95 }) (va_Pc [.ref (ad h0)] (PrC (dC, dI) ct ka ad st sz)) (va_Qv (fun (_ : Unit) => True) (fun _ => CB (dC, dI) ct ka ad st' (aC ad st sz)) (aC ad st sz)) (qn st' - qn st) (qs st' - qs st) (aC ad st sz) := by
  refine Met.ofW (cc := cX8_init) (maxL := 2) (ret := none) (by decide) rfl ?_
  intro p e s m args below meth c s₁ B hml hv
  obtain ⟨rfl, hsz, hw0, hK, hN, hZ, hC, hR, hL, hw1, hw2⟩ := hv
  have hx := B.exec
  have hb := B.bytes
  have hr := B.returns
  have hts := atoms_spec (ws := wq_X8_init) B.pre
  have hown : s.vm.findClass RX8 = some m.cls := findClass_of_methodNamed B.named
  have hin : meth.name = "<init>" := (name_of_methodNamed B.named B.method).1
  have iRX8 : ∀ w ∈ u_ws RX8 TX8 12, w ∈ wq_X8_init := fun w h => List.mem_cons_of_mem _ (List.mem_append_left _ (List.mem_append_left _ (List.mem_append_left _ (List.mem_append_left _ (List.mem_append_left _ (List.mem_append_left _ (List.mem_append_left _ (List.mem_append_right _ h))))))))
  have iRX5 : ∀ w ∈ u_ws RX5 TX5 2, w ∈ wq_X8_init := fun w h => List.mem_cons_of_mem _ (List.mem_append_left _ (List.mem_append_left _ (List.mem_append_left _ (List.mem_append_left _ (List.mem_append_left _ (List.mem_append_left _ (List.mem_append_right _ h)))))))
  have iRX7 : ∀ w ∈ u_ws RX7 TX7 2, w ∈ wq_X8_init := fun w h => List.mem_cons_of_mem _ (List.mem_append_left _ (List.mem_append_left _ (List.mem_append_left _ (List.mem_append_left _ (List.mem_append_left _ (List.mem_append_right _ h))))))
  have iRX4 : ∀ w ∈ u_ws RX4 TX4 3, w ∈ wq_X8_init := fun w h => List.mem_cons_of_mem _ (List.mem_append_left _ (List.mem_append_left _ (List.mem_append_left _ (List.mem_append_left _ (List.mem_append_right _ h)))))
  have iRX3 : ∀ w ∈ u_ws RX3 TX3 4, w ∈ wq_X8_init := fun w h => List.mem_cons_of_mem _ (List.mem_append_left _ (List.mem_append_left _ (List.mem_append_left _ (List.mem_append_right _ h))))
  have iRX6 : ∀ w ∈ u_ws RX6 TX6 6, w ∈ wq_X8_init := fun w h => List.mem_cons_of_mem _ (List.mem_append_left _ (List.mem_append_left _ (List.mem_append_right _ h)))
  subst hsz
  have hp : Cp (dC, dI) ka ad ct (aC ad st s.heap.size) s.heap st s.heap [] := ⟨fun i a b => ⟨hw0 i a b, Or.inl ⟨i, a, b, rfl⟩⟩, va_S.rf, hw1, hw2⟩
  generalize hAe : aC ad st s.heap.size = A at hp hZ hC ⊢
  have hA : ∀ q : Nat, s.heap.size ≤ q → A q := fun q h => by rw [← hAe]; exact Or.inr h
  have hl := lv_entry ([.ref (ad h0)]) (n := 2) (Nat.le_of_ble_eq_true rfl)
  rw [lg_entry_eq]
  generalize (lg_sl ([.ref (ad h0)]) ++ List.replicate (2 - (lg_sl ([.ref (ad h0)])).length) Slot.unset).toArray = ls at hl ⊢
  have hl : lv_has ls 2 [(0, .ref (ad h0))] := hl
  have hm : Mo st st := Mo.rf
  refine W.widen (k := qn st - qn st) (n := qs st - qs st) (Nat.zero_le _) (Nat.zero_le _) ?_
  refine W_blkA (fun (u : (Option Nat) × CS) H locs ls => match u with | (s0, gs) => fX8_init_152 h0 s0 gs = some st' ∧ Cp (dC, dI) ka ad ct A s.heap gs H locs ∧ lv_has ls 2 [(0, .ref (ad h0))] ∧ Mo st gs) (fun (u : (Option Nat) × CS) ls => match u with | (s0, gs) => F0 m 152 ls [va_rf (Option.map ad s0), .ref (ad h0)]) (fun (u : (Option Nat) × CS) => match u with | (s0, gs) => qn gs - qn st) (fun (u : (Option Nat) × CS) => match u with | (s0, gs) => qs gs - qs st) ?_ (fun J152 => ?_)
  · intro u H locs ls hu
    obtain ⟨s0, gs⟩ := u
    obtain ⟨hf, hp, hl, hm⟩ := hu
    show W p l e _ s m _ below meth c _ _ (qn gs - qn st) (qs gs - qs st) _ (F0 m 152 ls [va_rf (Option.map ad s0), .ref (ad h0)])
    unfold fX8_init_152 at hf
    obtain ⟨hk_1, hf⟩ := gd_some hf
    refine q_pFp (ci := 10) (C := RX8) (T := TX8) (N := 12) (k := 8) (v := s0) (ty := (.object "RecordBench$Row")) hx hb hts iRX8 tyX8 tyX8_ok nmX8 hown hK hp (hp.2.2.1.ge hk_1 (by decide) (by decide) (by decide)) hk_1 (by decide) rfl rfl (by decide) rfl (hts (.fieldLink RX8 63 "RecordBench" "work" "LRecordBench$Row;") (by decide +kernel)) (fun _ h9 => h9) rfl hin rfl (by decide +kernel) (rf_nar rfl _) dX8_init_152 (fun H locs hp => ?_)
    obtain ⟨st_2, est_2, hf⟩ := nam_some hf
    rw [← est_2] at hp
    have hm := hm.wP est_2
    refine W.widen (k := qn st_2 - qn st) (n := qs st_2 - qs st) (by rw [est_2]; exact Nat.le_refl _) (by rw [est_2]; exact Nat.le_refl _) ?_
    have hk_1 : qk st_2 h0 = 11 := by rw [est_2]; exact hk_1
    refine lv_aload_n hx hb dX8_init_155 rfl (lv_at hl 0 rfl) ?_
    refine lv_iconst (v := 0) hx hb dX8_init_156 (by decide) ?_
    refine q_pi (ci := 10) (C := RX8) (T := TX8) (N := 12) (k := 9) (v := 0) (ty := .int) hx hb hts iRX8 tyX8 tyX8_ok nmX8 hown hK hp hk_1 (by decide) rfl rfl (by decide) rfl (Or.inl (hts (.fieldLink RX8 66 "RecordBench" "latestFault" "I") (by decide +kernel))) (fun _ h9 => h9) rfl (by decide +kernel) rfl rfl dX8_init_157 (fun H locs hp => ?_)
    obtain ⟨st_3, est_3, hf⟩ := nam_some hf
    rw [← est_3] at hp
    have hm := hm.wI est_3
    refine W.widen (k := qn st_3 - qn st) (n := qs st_3 - qs st) (by rw [est_3]; exact Nat.le_refl _) (by rw [est_3]; exact Nat.le_refl _) ?_
    have hk_1 : qk st_3 h0 = 11 := by rw [est_3]; exact hk_1
    refine lv_aload_n hx hb dX8_init_160 rfl (lv_at hl 0 rfl) ?_
    refine lv_iconst (v := (-1)) hx hb dX8_init_161 (by decide) ?_
    refine q_pi (ci := 10) (C := RX8) (T := TX8) (N := 12) (k := 10) (v := (-1)) (ty := .int) hx hb hts iRX8 tyX8 tyX8_ok nmX8 hown hK hp hk_1 (by decide) rfl rfl (by decide) rfl (Or.inl (hts (.fieldLink RX8 70 "RecordBench" "latestPlace" "I") (by decide +kernel))) (fun _ h9 => h9) rfl (by decide +kernel) rfl rfl dX8_init_162 (fun H locs hp => ?_)
    obtain ⟨st_4, est_4, hf⟩ := nam_some hf
    rw [← est_4] at hp
    have hm := hm.wI est_4
    refine W.widen (k := qn st_4 - qn st) (n := qs st_4 - qs st) (by rw [est_4]; exact Nat.le_refl _) (by rw [est_4]; exact Nat.le_refl _) ?_
    have hk_1 : qk st_4 h0 = 11 := by rw [est_4]; exact hk_1
    refine lv_aload_n hx hb dX8_init_165 rfl (lv_at hl 0 rfl) ?_
    refine lv_iconst (v := 0) hx hb dX8_init_166 (by decide) ?_
    refine q_pi (ci := 10) (C := RX8) (T := TX8) (N := 12) (k := 11) (v := 0) (ty := .int) hx hb hts iRX8 tyX8 tyX8_ok nmX8 hown hK hp hk_1 (by decide) rfl rfl (by decide) rfl (Or.inl (hts (.fieldLink RX8 73 "RecordBench" "latestNumber" "I") (by decide +kernel))) (fun _ h9 => h9) rfl (by decide +kernel) rfl rfl dX8_init_167 (fun H locs hp => ?_)
    obtain ⟨st_5, est_5, hf⟩ := nam_some hf
    rw [← est_5] at hp
    have hm := hm.wI est_5
    refine W.widen (k := qn st_5 - qn st) (n := qs st_5 - qs st) (by rw [est_5]; exact Nat.le_refl _) (by rw [est_5]; exact Nat.le_refl _) ?_
    have hk_1 : qk st_5 h0 = 11 := by rw [est_5]; exact hk_1
    have e2 := Option.some.inj hf
    refine W.widen (k := qn st' - qn st) (n := qs st' - qs st) (by rw [e2]; exact Nat.le_refl _) (by rw [e2]; exact Nat.le_refl _) ?_
    exact W.vret hx hb hr (fun t ht hW => ⟨⟨(), rfl, trivial, Cp.end e2 hp ht⟩, hp.2.1.F ht⟩) hp.2.1.2.2 dX8_init_170
  refine W_blkA (fun (u : (Option Nat) × CS) H locs ls => match u with | (s0, gs) => fX8_init_145 h0 s0 gs = some st' ∧ Cp (dC, dI) ka ad ct A s.heap gs H locs ∧ lv_has ls 2 [(0, .ref (ad h0))] ∧ Mo st gs) (fun (u : (Option Nat) × CS) ls => match u with | (s0, gs) => F0 m 145 ls [va_rf (Option.map ad s0), .ref (ad h0)]) (fun (u : (Option Nat) × CS) => match u with | (s0, gs) => qn gs - qn st) (fun (u : (Option Nat) × CS) => match u with | (s0, gs) => qs gs - qs st) ?_ (fun J145 => ?_)
  · intro u H locs ls hu
    obtain ⟨s0, gs⟩ := u
    obtain ⟨hf, hp, hl, hm⟩ := hu
    show W p l e _ s m _ below meth c _ _ (qn gs - qn st) (qs gs - qs st) _ (F0 m 145 ls [va_rf (Option.map ad s0), .ref (ad h0)])
    unfold fX8_init_145 at hf
    refine lv_dup hx hb dX8_init_145 (rf_cat _) ?_
    refine lv_sipush (v := 256) hx hb dX8_init_146 (by decide) ?_
    obtain ⟨a_6, ha_7, hf⟩ := ono_some hf
    refine o_at1 ha_7 ?_
    obtain ⟨hk_8, hf⟩ := gd_some hf
    obtain ⟨st_9, hc_10, hf⟩ := bnv_some hf
    have lthk_8 := hp.2.2.1.lt (i := a_6) (by rw [hk_8]; decide)
    have hmc := (mo_X5_init a_6 256 _ _ hc_10)
    have hmr := mo_X8_init_152 h0 _ _ _ hf
    refine q_cv hp hA (va_runI (As := [.int 256]) (rest := [va_rf (Option.map ad s0), .ref (ad h0)]) ⟨hx, hb, hml, hown, hts⟩ (c_X5_init l dC dI ka ad ct a_6 256 _ _ hc_10 _) (cwI 1 hts gq_X8_init_X5_init_11 rfl rfl rfl (hts (.initialized RX5) (by decide +kernel)) (hts (.methodLink RX8 11 yX5_init) (by decide +kernel)) (hts (.instanceMethod yX5_init) (by decide +kernel)) rfl (by decide +kernel) ⟨Nat.le_of_ble_eq_true rfl, Nat.le_of_ble_eq_true rfl⟩) ⟨PrC.blind _, q_pre hp hK hN hZ hC hR hL hA⟩ rfl rfl hl.1 rfl (lv_room (by simp [rf_cat, vc_i, vc_l, vc_r, vc_n])) dX8_init_149 ⟨by show qn gs - qn st + (qn st_9 - qn gs) ≤ qn st' - qn st; have := hmr.1; have := hm.1; have := hmc.1; omega, by show qs gs - qs st + (qs st_9 - qs gs) ≤ qs st' - qs st; have := hmr.2.1; have := hm.2.1; have := hmc.2.1; omega⟩) (fun H locs hp => ?_)
    have hk_8 : qk st_9 a_6 = 8 := ((mo_X5_init a_6 256 _ _ hc_10).2.2 _ lthk_8).1.trans hk_8
    refine W.widen (k := qn st_9 - qn st) (n := qs st_9 - qs st) (by have := hm.1; have := hmc.1; omega) (by have := hm.2.1; have := hmc.2.1; omega) ?_
    have hm := hm.tr hmc
    exact J152 (s0, st_9) _ _ _ ⟨hf, hp, (lv_sub hl [0] rfl), hm⟩
  refine W_blkA (fun (u : (Option Nat) × CS) H locs ls => match u with | (s0, gs) => fX8_init_138 h0 s0 gs = some st' ∧ Cp (dC, dI) ka ad ct A s.heap gs H locs ∧ lv_has ls 2 [(0, .ref (ad h0))] ∧ Mo st gs) (fun (u : (Option Nat) × CS) ls => match u with | (s0, gs) => F0 m 138 ls [va_rf (Option.map ad s0), .ref (ad h0)]) (fun (u : (Option Nat) × CS) => match u with | (s0, gs) => qn gs - qn st) (fun (u : (Option Nat) × CS) => match u with | (s0, gs) => qs gs - qs st) ?_ (fun J138 => ?_)
  · intro u H locs ls hu
    obtain ⟨s0, gs⟩ := u
    obtain ⟨hf, hp, hl, hm⟩ := hu
    show W p l e _ s m _ below meth c _ _ (qn gs - qn st) (qs gs - qs st) _ (F0 m 138 ls [va_rf (Option.map ad s0), .ref (ad h0)])
    unfold fX8_init_138 at hf
    obtain ⟨hk_12, hf⟩ := gd_some hf
    refine q_pFp (ci := 10) (C := RX8) (T := TX8) (N := 12) (k := 7) (v := s0) (ty := (.object "RecordBench$Row")) hx hb hts iRX8 tyX8 tyX8_ok nmX8 hown hK hp (hp.2.2.1.ge hk_12 (by decide) (by decide) (by decide)) hk_12 (by decide) rfl rfl (by decide) rfl (hts (.fieldLink RX8 60 "RecordBench" "fresh" "LRecordBench$Row;") (by decide +kernel)) (fun _ h9 => h9) rfl hin rfl (by decide +kernel) (rf_nar rfl _) dX8_init_138 (fun H locs hp => ?_)
    obtain ⟨st_13, est_13, hf⟩ := nam_some hf
    rw [← est_13] at hp
    have hm := hm.wP est_13
    refine W.widen (k := qn st_13 - qn st) (n := qs st_13 - qs st) (by rw [est_13]; exact Nat.le_refl _) (by rw [est_13]; exact Nat.le_refl _) ?_
    have hk_12 : qk st_13 h0 = 11 := by rw [est_13]; exact hk_12
    refine lv_aload_n hx hb dX8_init_141 rfl (lv_at hl 0 rfl) ?_
    have lthk_12 := hp.2.2.1.lt (i := h0) (by rw [hk_12]; decide)
    obtain ⟨st_14, est_14, hf⟩ := nam_some hf
    have hmr := mo_X8_init_145 h0 _ _ _ hf
    refine q_new (ci := 7) (C := RX5) (T := TX5) (N := 2) hx hb hts iRX5 tyX5 tyX5_ok hown (hts (.classLink RX8 7 RX5) (by decide +kernel)) (hts (.instantiable RX5 2) (by decide +kernel)) (hts (.initialized RX5) (by decide +kernel)) hK hp hA (by decide) rfl rfl dvX5 (by show qn st_13 - qn st + 1 ≤ qn st' - qn st; have := hmr.1; have := hm.1; have := (wN_n est_14).1; omega) (by show qs st_13 - qs st + 2 ≤ qs st' - qs st; have := hmr.2.1; have := hm.2.1; have := (wN_n est_14).2; omega) dX8_init_142 (fun H hp => ?_)
    rw [← est_14] at hp
    have hk_12 : qk st_14 h0 = 11 := by rw [est_14]; exact (va_up_ne _ _ (Nat.ne_of_lt lthk_12)).trans hk_12
    refine W.widen (k := qn st_14 - qn st) (n := qs st_14 - qs st) (by have := hm.1; have := (wN_n est_14).1; omega) (by have := hm.2.1; have := (wN_n est_14).2; omega) ?_
    have hm := hm.wN est_14
    exact J145 ((some (qn st_13)), st_14) _ _ _ ⟨hf, hp, (lv_sub hl [0] rfl), hm⟩
  refine W_blkA (fun (u : (Option Nat) × CS) H locs ls => match u with | (s0, gs) => fX8_init_131 h0 s0 gs = some st' ∧ Cp (dC, dI) ka ad ct A s.heap gs H locs ∧ lv_has ls 2 [(0, .ref (ad h0))] ∧ Mo st gs) (fun (u : (Option Nat) × CS) ls => match u with | (s0, gs) => F0 m 131 ls [va_rf (Option.map ad s0), .ref (ad h0)]) (fun (u : (Option Nat) × CS) => match u with | (s0, gs) => qn gs - qn st) (fun (u : (Option Nat) × CS) => match u with | (s0, gs) => qs gs - qs st) ?_ (fun J131 => ?_)
  · intro u H locs ls hu
    obtain ⟨s0, gs⟩ := u
    obtain ⟨hf, hp, hl, hm⟩ := hu
    show W p l e _ s m _ below meth c _ _ (qn gs - qn st) (qs gs - qs st) _ (F0 m 131 ls [va_rf (Option.map ad s0), .ref (ad h0)])
    unfold fX8_init_131 at hf
    refine lv_dup hx hb dX8_init_131 (rf_cat _) ?_
    refine lv_sipush (v := 256) hx hb dX8_init_132 (by decide) ?_
    obtain ⟨a_15, ha_16, hf⟩ := ono_some hf
    refine o_at1 ha_16 ?_
    obtain ⟨hk_17, hf⟩ := gd_some hf
    obtain ⟨st_18, hc_19, hf⟩ := bnv_some hf
    have lthk_17 := hp.2.2.1.lt (i := a_15) (by rw [hk_17]; decide)
    have hmc := (mo_X5_init a_15 256 _ _ hc_19)
    have hmr := mo_X8_init_138 h0 _ _ _ hf
    refine q_cv hp hA (va_runI (As := [.int 256]) (rest := [va_rf (Option.map ad s0), .ref (ad h0)]) ⟨hx, hb, hml, hown, hts⟩ (c_X5_init l dC dI ka ad ct a_15 256 _ _ hc_19 _) (cwI 1 hts gq_X8_init_X5_init_11 rfl rfl rfl (hts (.initialized RX5) (by decide +kernel)) (hts (.methodLink RX8 11 yX5_init) (by decide +kernel)) (hts (.instanceMethod yX5_init) (by decide +kernel)) rfl (by decide +kernel) ⟨Nat.le_of_ble_eq_true rfl, Nat.le_of_ble_eq_true rfl⟩) ⟨PrC.blind _, q_pre hp hK hN hZ hC hR hL hA⟩ rfl rfl hl.1 rfl (lv_room (by simp [rf_cat, vc_i, vc_l, vc_r, vc_n])) dX8_init_135 ⟨by show qn gs - qn st + (qn st_18 - qn gs) ≤ qn st' - qn st; have := hmr.1; have := hm.1; have := hmc.1; omega, by show qs gs - qs st + (qs st_18 - qs gs) ≤ qs st' - qs st; have := hmr.2.1; have := hm.2.1; have := hmc.2.1; omega⟩) (fun H locs hp => ?_)
    have hk_17 : qk st_18 a_15 = 8 := ((mo_X5_init a_15 256 _ _ hc_19).2.2 _ lthk_17).1.trans hk_17
    refine W.widen (k := qn st_18 - qn st) (n := qs st_18 - qs st) (by have := hm.1; have := hmc.1; omega) (by have := hm.2.1; have := hmc.2.1; omega) ?_
    have hm := hm.tr hmc
    exact J138 (s0, st_18) _ _ _ ⟨hf, hp, (lv_sub hl [0] rfl), hm⟩
  refine W_blkA (fun (u : (Option Nat) × CS) H locs ls => match u with | (s0, gs) => fX8_init_124 h0 s0 gs = some st' ∧ Cp (dC, dI) ka ad ct A s.heap gs H locs ∧ lv_has ls 2 [(0, .ref (ad h0))] ∧ Mo st gs) (fun (u : (Option Nat) × CS) ls => match u with | (s0, gs) => F0 m 124 ls [va_rf (Option.map ad s0), .ref (ad h0)]) (fun (u : (Option Nat) × CS) => match u with | (s0, gs) => qn gs - qn st) (fun (u : (Option Nat) × CS) => match u with | (s0, gs) => qs gs - qs st) ?_ (fun J124 => ?_)
  · intro u H locs ls hu
    obtain ⟨s0, gs⟩ := u
    obtain ⟨hf, hp, hl, hm⟩ := hu
    show W p l e _ s m _ below meth c _ _ (qn gs - qn st) (qs gs - qs st) _ (F0 m 124 ls [va_rf (Option.map ad s0), .ref (ad h0)])
    unfold fX8_init_124 at hf
    obtain ⟨hk_21, hf⟩ := gd_some hf
    refine q_pFp (ci := 10) (C := RX8) (T := TX8) (N := 12) (k := 6) (v := s0) (ty := (.object "RecordBench$Walks")) hx hb hts iRX8 tyX8 tyX8_ok nmX8 hown hK hp (hp.2.2.1.ge hk_21 (by decide) (by decide) (by decide)) hk_21 (by decide) rfl rfl (by decide) rfl (hts (.fieldLink RX8 56 "RecordBench" "walks" "LRecordBench$Walks;") (by decide +kernel)) (fun _ h9 => h9) rfl hin rfl (by decide +kernel) (rf_nar rfl _) dX8_init_124 (fun H locs hp => ?_)
    obtain ⟨st_22, est_22, hf⟩ := nam_some hf
    rw [← est_22] at hp
    have hm := hm.wP est_22
    refine W.widen (k := qn st_22 - qn st) (n := qs st_22 - qs st) (by rw [est_22]; exact Nat.le_refl _) (by rw [est_22]; exact Nat.le_refl _) ?_
    have hk_21 : qk st_22 h0 = 11 := by rw [est_22]; exact hk_21
    refine lv_aload_n hx hb dX8_init_127 rfl (lv_at hl 0 rfl) ?_
    have lthk_21 := hp.2.2.1.lt (i := h0) (by rw [hk_21]; decide)
    obtain ⟨st_23, est_23, hf⟩ := nam_some hf
    have hmr := mo_X8_init_131 h0 _ _ _ hf
    refine q_new (ci := 7) (C := RX5) (T := TX5) (N := 2) hx hb hts iRX5 tyX5 tyX5_ok hown (hts (.classLink RX8 7 RX5) (by decide +kernel)) (hts (.instantiable RX5 2) (by decide +kernel)) (hts (.initialized RX5) (by decide +kernel)) hK hp hA (by decide) rfl rfl dvX5 (by show qn st_22 - qn st + 1 ≤ qn st' - qn st; have := hmr.1; have := hm.1; have := (wN_n est_23).1; omega) (by show qs st_22 - qs st + 2 ≤ qs st' - qs st; have := hmr.2.1; have := hm.2.1; have := (wN_n est_23).2; omega) dX8_init_128 (fun H hp => ?_)
    rw [← est_23] at hp
    have hk_21 : qk st_23 h0 = 11 := by rw [est_23]; exact (va_up_ne _ _ (Nat.ne_of_lt lthk_21)).trans hk_21
    refine W.widen (k := qn st_23 - qn st) (n := qs st_23 - qs st) (by have := hm.1; have := (wN_n est_23).1; omega) (by have := hm.2.1; have := (wN_n est_23).2; omega) ?_
    have hm := hm.wN est_23
    exact J131 ((some (qn st_22)), st_23) _ _ _ ⟨hf, hp, (lv_sub hl [0] rfl), hm⟩
  refine W_blkA (fun (u : (Option Nat) × CS) H locs ls => match u with | (s0, gs) => fX8_init_116 h0 s0 gs = some st' ∧ Cp (dC, dI) ka ad ct A s.heap gs H locs ∧ lv_has ls 2 [(0, .ref (ad h0))] ∧ Mo st gs) (fun (u : (Option Nat) × CS) ls => match u with | (s0, gs) => F0 m 116 ls [va_rf (Option.map ad s0), .ref (ad h0)]) (fun (u : (Option Nat) × CS) => match u with | (s0, gs) => qn gs - qn st) (fun (u : (Option Nat) × CS) => match u with | (s0, gs) => qs gs - qs st) ?_ (fun J116 => ?_)
  · intro u H locs ls hu
    obtain ⟨s0, gs⟩ := u
    obtain ⟨hf, hp, hl, hm⟩ := hu
    show W p l e _ s m _ below meth c _ _ (qn gs - qn st) (qs gs - qs st) _ (F0 m 116 ls [va_rf (Option.map ad s0), .ref (ad h0)])
    unfold fX8_init_116 at hf
    refine lv_dup hx hb dX8_init_116 (rf_cat _) ?_
    refine lv_aload_n hx hb dX8_init_117 rfl (lv_at hl 0 rfl) ?_
    obtain ⟨hk_24, hf⟩ := gd_some hf
    refine q_gp (ci := 10) (C := RX8) (T := TX8) (N := 12) (k := 2) hx hb hts iRX8 hown hK hp hk_24 (by decide) rfl rfl (by decide) rfl (Or.inl (hts (.fieldLink RX8 24 "RecordBench" "makes" "[LRecordBench$Make;") (by decide +kernel))) (fun _ h9 => h9) dX8_init_118 ?_
    obtain ⟨a_25, ha_26, hf⟩ := ono_some hf
    refine o_at1 ha_26 ?_
    obtain ⟨hk_27, hf⟩ := gd_some hf
    obtain ⟨st_28, hc_29, hf⟩ := bnv_some hf
    have lthk_24 := hp.2.2.1.lt (i := h0) (by rw [hk_24]; decide)
    have lthk_27 := hp.2.2.1.lt (i := a_25) (by rw [hk_27]; decide)
    have hmc := (mo_X7_init a_25 (qP gs h0 2) _ _ hc_29)
    have hmr := mo_X8_init_124 h0 _ _ _ hf
    refine q_cv hp hA (va_runI (As := [va_rf (Option.map ad (qP gs h0 2))]) (rest := [va_rf (Option.map ad s0), .ref (ad h0)]) ⟨hx, hb, hml, hown, hts⟩ (c_X7_init l dC dI ka ad ct a_25 (qP gs h0 2) _ _ hc_29 _) (cwI 1 hts gq_X8_init_X7_init_55 rfl rfl rfl (hts (.initialized RX7) (by decide +kernel)) (hts (.methodLink RX8 55 yX7_init) (by decide +kernel)) (hts (.instanceMethod yX7_init) (by decide +kernel)) rfl (by decide +kernel) ⟨Nat.le_of_ble_eq_true rfl, Nat.le_of_ble_eq_true rfl⟩) ⟨PrC.blind _, q_pre hp hK hN hZ hC hR hL hA⟩ rfl rfl hl.1 rfl (lv_room (by simp [rf_cat, vc_i, vc_l, vc_r, vc_n])) dX8_init_121 ⟨by show qn gs - qn st + (qn st_28 - qn gs) ≤ qn st' - qn st; have := hmr.1; have := hm.1; have := hmc.1; omega, by show qs gs - qs st + (qs st_28 - qs gs) ≤ qs st' - qs st; have := hmr.2.1; have := hm.2.1; have := hmc.2.1; omega⟩) (fun H locs hp => ?_)
    have hk_24 : qk st_28 h0 = 11 := ((mo_X7_init a_25 (qP gs h0 2) _ _ hc_29).2.2 _ lthk_24).1.trans hk_24
    have hk_27 : qk st_28 a_25 = 10 := ((mo_X7_init a_25 (qP gs h0 2) _ _ hc_29).2.2 _ lthk_27).1.trans hk_27
    refine W.widen (k := qn st_28 - qn st) (n := qs st_28 - qs st) (by have := hm.1; have := hmc.1; omega) (by have := hm.2.1; have := hmc.2.1; omega) ?_
    have hm := hm.tr hmc
    exact J124 (s0, st_28) _ _ _ ⟨hf, hp, (lv_sub hl [0] rfl), hm⟩
  refine W_blkA (fun (u : (Option Nat) × CS) H locs ls => match u with | (s0, gs) => fX8_init_109 h0 s0 gs = some st' ∧ Cp (dC, dI) ka ad ct A s.heap gs H locs ∧ lv_has ls 2 [(0, .ref (ad h0))] ∧ Mo st gs) (fun (u : (Option Nat) × CS) ls => match u with | (s0, gs) => F0 m 109 ls [va_rf (Option.map ad s0), .ref (ad h0)]) (fun (u : (Option Nat) × CS) => match u with | (s0, gs) => qn gs - qn st) (fun (u : (Option Nat) × CS) => match u with | (s0, gs) => qs gs - qs st) ?_ (fun J109 => ?_)
  · intro u H locs ls hu
    obtain ⟨s0, gs⟩ := u
    obtain ⟨hf, hp, hl, hm⟩ := hu
    show W p l e _ s m _ below meth c _ _ (qn gs - qn st) (qs gs - qs st) _ (F0 m 109 ls [va_rf (Option.map ad s0), .ref (ad h0)])
    unfold fX8_init_109 at hf
    obtain ⟨hk_31, hf⟩ := gd_some hf
    refine q_pFp (ci := 10) (C := RX8) (T := TX8) (N := 12) (k := 5) (v := s0) (ty := (.object "RecordBench$RecordWriter")) hx hb hts iRX8 tyX8 tyX8_ok nmX8 hown hK hp (hp.2.2.1.ge hk_31 (by decide) (by decide) (by decide)) hk_31 (by decide) rfl rfl (by decide) rfl (hts (.fieldLink RX8 49 "RecordBench" "writer" "LRecordBench$RecordWriter;") (by decide +kernel)) (fun _ h9 => h9) rfl hin rfl (by decide +kernel) (rf_nar rfl _) dX8_init_109 (fun H locs hp => ?_)
    obtain ⟨st_32, est_32, hf⟩ := nam_some hf
    rw [← est_32] at hp
    have hm := hm.wP est_32
    refine W.widen (k := qn st_32 - qn st) (n := qs st_32 - qs st) (by rw [est_32]; exact Nat.le_refl _) (by rw [est_32]; exact Nat.le_refl _) ?_
    have hk_31 : qk st_32 h0 = 11 := by rw [est_32]; exact hk_31
    refine lv_aload_n hx hb dX8_init_112 rfl (lv_at hl 0 rfl) ?_
    have lthk_31 := hp.2.2.1.lt (i := h0) (by rw [hk_31]; decide)
    obtain ⟨st_33, est_33, hf⟩ := nam_some hf
    have hmr := mo_X8_init_116 h0 _ _ _ hf
    refine q_new (ci := 9) (C := RX7) (T := TX7) (N := 2) hx hb hts iRX7 tyX7 tyX7_ok hown (hts (.classLink RX8 53 RX7) (by decide +kernel)) (hts (.instantiable RX7 2) (by decide +kernel)) (hts (.initialized RX7) (by decide +kernel)) hK hp hA (by decide) rfl rfl dvX7 (by show qn st_32 - qn st + 1 ≤ qn st' - qn st; have := hmr.1; have := hm.1; have := (wN_n est_33).1; omega) (by show qs st_32 - qs st + 2 ≤ qs st' - qs st; have := hmr.2.1; have := hm.2.1; have := (wN_n est_33).2; omega) dX8_init_113 (fun H hp => ?_)
    rw [← est_33] at hp
    have hk_31 : qk st_33 h0 = 11 := by rw [est_33]; exact (va_up_ne _ _ (Nat.ne_of_lt lthk_31)).trans hk_31
    refine W.widen (k := qn st_33 - qn st) (n := qs st_33 - qs st) (by have := hm.1; have := (wN_n est_33).1; omega) (by have := hm.2.1; have := (wN_n est_33).2; omega) ?_
    have hm := hm.wN est_33
    exact J116 ((some (qn st_32)), st_33) _ _ _ ⟨hf, hp, (lv_sub hl [0] rfl), hm⟩
  refine W_blkA (fun (u : (Option Nat) × CS) H locs ls => match u with | (s0, gs) => fX8_init_101 h0 s0 gs = some st' ∧ Cp (dC, dI) ka ad ct A s.heap gs H locs ∧ lv_has ls 2 [(0, .ref (ad h0))] ∧ Mo st gs) (fun (u : (Option Nat) × CS) ls => match u with | (s0, gs) => F0 m 101 ls [va_rf (Option.map ad s0), .ref (ad h0)]) (fun (u : (Option Nat) × CS) => match u with | (s0, gs) => qn gs - qn st) (fun (u : (Option Nat) × CS) => match u with | (s0, gs) => qs gs - qs st) ?_ (fun J101 => ?_)
  · intro u H locs ls hu
    obtain ⟨s0, gs⟩ := u
    obtain ⟨hf, hp, hl, hm⟩ := hu
    show W p l e _ s m _ below meth c _ _ (qn gs - qn st) (qs gs - qs st) _ (F0 m 101 ls [va_rf (Option.map ad s0), .ref (ad h0)])
    unfold fX8_init_101 at hf
    refine lv_dup hx hb dX8_init_101 (rf_cat _) ?_
    refine lv_aload_n hx hb dX8_init_102 rfl (lv_at hl 0 rfl) ?_
    obtain ⟨hk_34, hf⟩ := gd_some hf
    refine q_gp (ci := 10) (C := RX8) (T := TX8) (N := 12) (k := 2) hx hb hts iRX8 hown hK hp hk_34 (by decide) rfl rfl (by decide) rfl (Or.inl (hts (.fieldLink RX8 24 "RecordBench" "makes" "[LRecordBench$Make;") (by decide +kernel))) (fun _ h9 => h9) dX8_init_103 ?_
    obtain ⟨a_35, ha_36, hf⟩ := ono_some hf
    refine o_at1 ha_36 ?_
    obtain ⟨hk_37, hf⟩ := gd_some hf
    obtain ⟨st_38, hc_39, hf⟩ := bnv_some hf
    have lthk_34 := hp.2.2.1.lt (i := h0) (by rw [hk_34]; decide)
    have lthk_37 := hp.2.2.1.lt (i := a_35) (by rw [hk_37]; decide)
    have hmc := (mo_X4_init a_35 (qP gs h0 2) _ _ hc_39)
    have hmr := mo_X8_init_109 h0 _ _ _ hf
    refine q_cv hp hA (va_runI (As := [va_rf (Option.map ad (qP gs h0 2))]) (rest := [va_rf (Option.map ad s0), .ref (ad h0)]) ⟨hx, hb, hml, hown, hts⟩ (c_X4_init l dC dI ka ad ct a_35 (qP gs h0 2) _ _ hc_39 _) (cwI 1 hts gq_X8_init_X4_init_48 rfl rfl rfl (hts (.initialized RX4) (by decide +kernel)) (hts (.methodLink RX8 48 yX4_init) (by decide +kernel)) (hts (.instanceMethod yX4_init) (by decide +kernel)) rfl (by decide +kernel) ⟨Nat.le_of_ble_eq_true rfl, Nat.le_of_ble_eq_true rfl⟩) ⟨PrC.blind _, q_pre hp hK hN hZ hC hR hL hA⟩ rfl rfl hl.1 rfl (lv_room (by simp [rf_cat, vc_i, vc_l, vc_r, vc_n])) dX8_init_106 ⟨by show qn gs - qn st + (qn st_38 - qn gs) ≤ qn st' - qn st; have := hmr.1; have := hm.1; have := hmc.1; omega, by show qs gs - qs st + (qs st_38 - qs gs) ≤ qs st' - qs st; have := hmr.2.1; have := hm.2.1; have := hmc.2.1; omega⟩) (fun H locs hp => ?_)
    have hk_34 : qk st_38 h0 = 11 := ((mo_X4_init a_35 (qP gs h0 2) _ _ hc_39).2.2 _ lthk_34).1.trans hk_34
    have hk_37 : qk st_38 a_35 = 7 := ((mo_X4_init a_35 (qP gs h0 2) _ _ hc_39).2.2 _ lthk_37).1.trans hk_37
    refine W.widen (k := qn st_38 - qn st) (n := qs st_38 - qs st) (by have := hm.1; have := hmc.1; omega) (by have := hm.2.1; have := hmc.2.1; omega) ?_
    have hm := hm.tr hmc
    exact J109 (s0, st_38) _ _ _ ⟨hf, hp, (lv_sub hl [0] rfl), hm⟩
  refine W_blkA (fun (u : (Option Nat) × CS) H locs ls => match u with | (s0, gs) => fX8_init_94 h0 s0 gs = some st' ∧ Cp (dC, dI) ka ad ct A s.heap gs H locs ∧ lv_has ls 2 [(0, .ref (ad h0))] ∧ Mo st gs) (fun (u : (Option Nat) × CS) ls => match u with | (s0, gs) => F0 m 94 ls [va_rf (Option.map ad s0), .ref (ad h0)]) (fun (u : (Option Nat) × CS) => match u with | (s0, gs) => qn gs - qn st) (fun (u : (Option Nat) × CS) => match u with | (s0, gs) => qs gs - qs st) ?_ (fun J94 => ?_)
  · intro u H locs ls hu
    obtain ⟨s0, gs⟩ := u
    obtain ⟨hf, hp, hl, hm⟩ := hu
    show W p l e _ s m _ below meth c _ _ (qn gs - qn st) (qs gs - qs st) _ (F0 m 94 ls [va_rf (Option.map ad s0), .ref (ad h0)])
    unfold fX8_init_94 at hf
    obtain ⟨hk_41, hf⟩ := gd_some hf
    refine q_pFp (ci := 10) (C := RX8) (T := TX8) (N := 12) (k := 4) (v := s0) (ty := (.object "RecordBench$RecordReader")) hx hb hts iRX8 tyX8 tyX8_ok nmX8 hown hK hp (hp.2.2.1.ge hk_41 (by decide) (by decide) (by decide)) hk_41 (by decide) rfl rfl (by decide) rfl (hts (.fieldLink RX8 42 "RecordBench" "reader" "LRecordBench$RecordReader;") (by decide +kernel)) (fun _ h9 => h9) rfl hin rfl (by decide +kernel) (rf_nar rfl _) dX8_init_94 (fun H locs hp => ?_)
    obtain ⟨st_42, est_42, hf⟩ := nam_some hf
    rw [← est_42] at hp
    have hm := hm.wP est_42
    refine W.widen (k := qn st_42 - qn st) (n := qs st_42 - qs st) (by rw [est_42]; exact Nat.le_refl _) (by rw [est_42]; exact Nat.le_refl _) ?_
    have hk_41 : qk st_42 h0 = 11 := by rw [est_42]; exact hk_41
    refine lv_aload_n hx hb dX8_init_97 rfl (lv_at hl 0 rfl) ?_
    have lthk_41 := hp.2.2.1.lt (i := h0) (by rw [hk_41]; decide)
    obtain ⟨st_43, est_43, hf⟩ := nam_some hf
    have hmr := mo_X8_init_101 h0 _ _ _ hf
    refine q_new (ci := 6) (C := RX4) (T := TX4) (N := 3) hx hb hts iRX4 tyX4 tyX4_ok hown (hts (.classLink RX8 46 RX4) (by decide +kernel)) (hts (.instantiable RX4 3) (by decide +kernel)) (hts (.initialized RX4) (by decide +kernel)) hK hp hA (by decide) rfl rfl dvX4 (by show qn st_42 - qn st + 1 ≤ qn st' - qn st; have := hmr.1; have := hm.1; have := (wN_n est_43).1; omega) (by show qs st_42 - qs st + 3 ≤ qs st' - qs st; have := hmr.2.1; have := hm.2.1; have := (wN_n est_43).2; omega) dX8_init_98 (fun H hp => ?_)
    rw [← est_43] at hp
    have hk_41 : qk st_43 h0 = 11 := by rw [est_43]; exact (va_up_ne _ _ (Nat.ne_of_lt lthk_41)).trans hk_41
    refine W.widen (k := qn st_43 - qn st) (n := qs st_43 - qs st) (by have := hm.1; have := (wN_n est_43).1; omega) (by have := hm.2.1; have := (wN_n est_43).2; omega) ?_
    have hm := hm.wN est_43
    exact J101 ((some (qn st_42)), st_43) _ _ _ ⟨hf, hp, (lv_sub hl [0] rfl), hm⟩
  refine W_blkA (fun (u : (Option Nat) × CS) H locs ls => match u with | (s0, gs) => fX8_init_86 h0 s0 gs = some st' ∧ Cp (dC, dI) ka ad ct A s.heap gs H locs ∧ lv_has ls 2 [(0, .ref (ad h0))] ∧ Mo st gs) (fun (u : (Option Nat) × CS) ls => match u with | (s0, gs) => F0 m 86 ls [va_rf (Option.map ad s0), .ref (ad h0)]) (fun (u : (Option Nat) × CS) => match u with | (s0, gs) => qn gs - qn st) (fun (u : (Option Nat) × CS) => match u with | (s0, gs) => qs gs - qs st) ?_ (fun J86 => ?_)
  · intro u H locs ls hu
    obtain ⟨s0, gs⟩ := u
    obtain ⟨hf, hp, hl, hm⟩ := hu
    show W p l e _ s m _ below meth c _ _ (qn gs - qn st) (qs gs - qs st) _ (F0 m 86 ls [va_rf (Option.map ad s0), .ref (ad h0)])
    unfold fX8_init_86 at hf
    refine lv_dup hx hb dX8_init_86 (rf_cat _) ?_
    refine lv_aload_n hx hb dX8_init_87 rfl (lv_at hl 0 rfl) ?_
    obtain ⟨hk_44, hf⟩ := gd_some hf
    refine q_gp (ci := 10) (C := RX8) (T := TX8) (N := 12) (k := 2) hx hb hts iRX8 hown hK hp hk_44 (by decide) rfl rfl (by decide) rfl (Or.inl (hts (.fieldLink RX8 24 "RecordBench" "makes" "[LRecordBench$Make;") (by decide +kernel))) (fun _ h9 => h9) dX8_init_88 ?_
    obtain ⟨a_45, ha_46, hf⟩ := ono_some hf
    refine o_at1 ha_46 ?_
    obtain ⟨hk_47, hf⟩ := gd_some hf
    obtain ⟨st_48, hc_49, hf⟩ := bnv_some hf
    have lthk_44 := hp.2.2.1.lt (i := h0) (by rw [hk_44]; decide)
    have lthk_47 := hp.2.2.1.lt (i := a_45) (by rw [hk_47]; decide)
    have hmc := (mo_X3_init a_45 (qP gs h0 2) _ _ hc_49)
    have hmr := mo_X8_init_94 h0 _ _ _ hf
    refine q_cv hp hA (va_runI (As := [va_rf (Option.map ad (qP gs h0 2))]) (rest := [va_rf (Option.map ad s0), .ref (ad h0)]) ⟨hx, hb, hml, hown, hts⟩ (c_X3_init l dC dI ka ad ct a_45 (qP gs h0 2) _ _ hc_49 _) (cwI 1 hts gq_X8_init_X3_init_39 rfl rfl rfl (hts (.initialized RX3) (by decide +kernel)) (hts (.methodLink RX8 39 yX3_init) (by decide +kernel)) (hts (.instanceMethod yX3_init) (by decide +kernel)) rfl (by decide +kernel) ⟨Nat.le_of_ble_eq_true rfl, Nat.le_of_ble_eq_true rfl⟩) ⟨PrC.blind _, q_pre hp hK hN hZ hC hR hL hA⟩ rfl rfl hl.1 rfl (lv_room (by simp [rf_cat, vc_i, vc_l, vc_r, vc_n])) dX8_init_91 ⟨by show qn gs - qn st + (qn st_48 - qn gs) ≤ qn st' - qn st; have := hmr.1; have := hm.1; have := hmc.1; omega, by show qs gs - qs st + (qs st_48 - qs gs) ≤ qs st' - qs st; have := hmr.2.1; have := hm.2.1; have := hmc.2.1; omega⟩) (fun H locs hp => ?_)
    have hk_44 : qk st_48 h0 = 11 := ((mo_X3_init a_45 (qP gs h0 2) _ _ hc_49).2.2 _ lthk_44).1.trans hk_44
    have hk_47 : qk st_48 a_45 = 6 := ((mo_X3_init a_45 (qP gs h0 2) _ _ hc_49).2.2 _ lthk_47).1.trans hk_47
    refine W.widen (k := qn st_48 - qn st) (n := qs st_48 - qs st) (by have := hm.1; have := hmc.1; omega) (by have := hm.2.1; have := hmc.2.1; omega) ?_
    have hm := hm.tr hmc
    exact J94 (s0, st_48) _ _ _ ⟨hf, hp, (lv_sub hl [0] rfl), hm⟩
  refine W_blkA (fun (u : (Option Nat) × CS) H locs ls => match u with | (s0, gs) => fX8_init_79 h0 s0 gs = some st' ∧ Cp (dC, dI) ka ad ct A s.heap gs H locs ∧ lv_has ls 2 [(0, .ref (ad h0))] ∧ Mo st gs) (fun (u : (Option Nat) × CS) ls => match u with | (s0, gs) => F0 m 79 ls [va_rf (Option.map ad s0), .ref (ad h0)]) (fun (u : (Option Nat) × CS) => match u with | (s0, gs) => qn gs - qn st) (fun (u : (Option Nat) × CS) => match u with | (s0, gs) => qs gs - qs st) ?_ (fun J79 => ?_)
  · intro u H locs ls hu
    obtain ⟨s0, gs⟩ := u
    obtain ⟨hf, hp, hl, hm⟩ := hu
    show W p l e _ s m _ below meth c _ _ (qn gs - qn st) (qs gs - qs st) _ (F0 m 79 ls [va_rf (Option.map ad s0), .ref (ad h0)])
    unfold fX8_init_79 at hf
    obtain ⟨hk_51, hf⟩ := gd_some hf
    refine q_pFp (ci := 10) (C := RX8) (T := TX8) (N := 12) (k := 3) (v := s0) (ty := (.object "RecordBench$TextReader")) hx hb hts iRX8 tyX8 tyX8_ok nmX8 hown hK hp (hp.2.2.1.ge hk_51 (by decide) (by decide) (by decide)) hk_51 (by decide) rfl rfl (by decide) rfl (hts (.fieldLink RX8 33 "RecordBench" "texts" "LRecordBench$TextReader;") (by decide +kernel)) (fun _ h9 => h9) rfl hin rfl (by decide +kernel) (rf_nar rfl _) dX8_init_79 (fun H locs hp => ?_)
    obtain ⟨st_52, est_52, hf⟩ := nam_some hf
    rw [← est_52] at hp
    have hm := hm.wP est_52
    refine W.widen (k := qn st_52 - qn st) (n := qs st_52 - qs st) (by rw [est_52]; exact Nat.le_refl _) (by rw [est_52]; exact Nat.le_refl _) ?_
    have hk_51 : qk st_52 h0 = 11 := by rw [est_52]; exact hk_51
    refine lv_aload_n hx hb dX8_init_82 rfl (lv_at hl 0 rfl) ?_
    have lthk_51 := hp.2.2.1.lt (i := h0) (by rw [hk_51]; decide)
    obtain ⟨st_53, est_53, hf⟩ := nam_some hf
    have hmr := mo_X8_init_86 h0 _ _ _ hf
    refine q_new (ci := 5) (C := RX3) (T := TX3) (N := 4) hx hb hts iRX3 tyX3 tyX3_ok hown (hts (.classLink RX8 37 RX3) (by decide +kernel)) (hts (.instantiable RX3 4) (by decide +kernel)) (hts (.initialized RX3) (by decide +kernel)) hK hp hA (by decide) rfl rfl dvX3 (by show qn st_52 - qn st + 1 ≤ qn st' - qn st; have := hmr.1; have := hm.1; have := (wN_n est_53).1; omega) (by show qs st_52 - qs st + 4 ≤ qs st' - qs st; have := hmr.2.1; have := hm.2.1; have := (wN_n est_53).2; omega) dX8_init_83 (fun H hp => ?_)
    rw [← est_53] at hp
    have hk_51 : qk st_53 h0 = 11 := by rw [est_53]; exact (va_up_ne _ _ (Nat.ne_of_lt lthk_51)).trans hk_51
    refine W.widen (k := qn st_53 - qn st) (n := qs st_53 - qs st) (by have := hm.1; have := (wN_n est_53).1; omega) (by have := hm.2.1; have := (wN_n est_53).2; omega) ?_
    have hm := hm.wN est_53
    exact J86 ((some (qn st_52)), st_53) _ _ _ ⟨hf, hp, (lv_sub hl [0] rfl), hm⟩
  refine W_blkA (fun (u : (Option Nat) × CS) H locs ls => match u with | (s0, gs) => fX8_init_67 h0 s0 gs = some st' ∧ Cp (dC, dI) ka ad ct A s.heap gs H locs ∧ lv_has ls 2 [(0, .ref (ad h0))] ∧ Mo st gs) (fun (u : (Option Nat) × CS) ls => match u with | (s0, gs) => F0 m 67 ls [va_rf (Option.map ad s0), .ref (ad h0)]) (fun (u : (Option Nat) × CS) => match u with | (s0, gs) => qn gs - qn st) (fun (u : (Option Nat) × CS) => match u with | (s0, gs) => qs gs - qs st) ?_ (fun J67 => ?_)
  · intro u H locs ls hu
    obtain ⟨s0, gs⟩ := u
    obtain ⟨hf, hp, hl, hm⟩ := hu
    show W p l e _ s m _ below meth c _ _ (qn gs - qn st) (qs gs - qs st) _ (F0 m 67 ls [va_rf (Option.map ad s0), .ref (ad h0)])
    unfold fX8_init_67 at hf
    refine lv_dup hx hb dX8_init_67 (rf_cat _) ?_
    refine lv_aload_n hx hb dX8_init_68 rfl (lv_at hl 0 rfl) ?_
    obtain ⟨hk_54, hf⟩ := gd_some hf
    refine q_gp (ci := 10) (C := RX8) (T := TX8) (N := 12) (k := 0) hx hb hts iRX8 hown hK hp hk_54 (by decide) rfl rfl (by decide) rfl (Or.inl (hts (.fieldLink RX8 14 "RecordBench" "tape" "LRecordBench$Row;") (by decide +kernel))) (fun _ h9 => h9) dX8_init_69 ?_
    refine lv_aload_n hx hb dX8_init_72 rfl (lv_at hl 0 rfl) ?_
    refine q_gp (ci := 10) (C := RX8) (T := TX8) (N := 12) (k := 2) hx hb hts iRX8 hown hK hp hk_54 (by decide) rfl rfl (by decide) rfl (Or.inl (hts (.fieldLink RX8 24 "RecordBench" "makes" "[LRecordBench$Make;") (by decide +kernel))) (fun _ h9 => h9) dX8_init_73 ?_
    obtain ⟨a_55, ha_56, hf⟩ := ono_some hf
    refine o_at2 ha_56 ?_
    obtain ⟨hk_57, hf⟩ := gd_some hf
    obtain ⟨st_58, hc_59, hf⟩ := bnv_some hf
    have lthk_54 := hp.2.2.1.lt (i := h0) (by rw [hk_54]; decide)
    have lthk_57 := hp.2.2.1.lt (i := a_55) (by rw [hk_57]; decide)
    have hmc := (mo_X6_init a_55 (qP gs h0 0) (qP gs h0 2) _ _ hc_59)
    have hmr := mo_X8_init_79 h0 _ _ _ hf
    refine q_cv hp hA (va_runI (As := [va_rf (Option.map ad (qP gs h0 0)), va_rf (Option.map ad (qP gs h0 2))]) (rest := [va_rf (Option.map ad s0), .ref (ad h0)]) ⟨hx, hb, hml, hown, hts⟩ (c_X6_init l dC dI ka ad ct a_55 (qP gs h0 0) (qP gs h0 2) _ _ hc_59 _) (cwI 2 hts gq_X8_init_X6_init_30 rfl rfl rfl (hts (.initialized RX6) (by decide +kernel)) (hts (.methodLink RX8 30 yX6_init) (by decide +kernel)) (hts (.instanceMethod yX6_init) (by decide +kernel)) rfl (by decide +kernel) ⟨Nat.le_of_ble_eq_true rfl, Nat.le_of_ble_eq_true rfl⟩) ⟨PrC.blind _, q_pre hp hK hN hZ hC hR hL hA⟩ rfl rfl hl.1 rfl (lv_room (by simp [rf_cat, vc_i, vc_l, vc_r, vc_n])) dX8_init_76 ⟨by show qn gs - qn st + (qn st_58 - qn gs) ≤ qn st' - qn st; have := hmr.1; have := hm.1; have := hmc.1; omega, by show qs gs - qs st + (qs st_58 - qs gs) ≤ qs st' - qs st; have := hmr.2.1; have := hm.2.1; have := hmc.2.1; omega⟩) (fun H locs hp => ?_)
    have hk_54 : qk st_58 h0 = 11 := ((mo_X6_init a_55 (qP gs h0 0) (qP gs h0 2) _ _ hc_59).2.2 _ lthk_54).1.trans hk_54
    have hk_57 : qk st_58 a_55 = 9 := ((mo_X6_init a_55 (qP gs h0 0) (qP gs h0 2) _ _ hc_59).2.2 _ lthk_57).1.trans hk_57
    refine W.widen (k := qn st_58 - qn st) (n := qs st_58 - qs st) (by have := hm.1; have := hmc.1; omega) (by have := hm.2.1; have := hmc.2.1; omega) ?_
    have hm := hm.tr hmc
    exact J79 (s0, st_58) _ _ _ ⟨hf, hp, (lv_sub hl [0] rfl), hm⟩
  refine W_blkA (fun (u : (Option Nat) × CS) H locs ls => match u with | (s0, gs) => fX8_init_60 h0 s0 gs = some st' ∧ Cp (dC, dI) ka ad ct A s.heap gs H locs ∧ lv_has ls 2 [(0, .ref (ad h0))] ∧ Mo st gs) (fun (u : (Option Nat) × CS) ls => match u with | (s0, gs) => F0 m 60 ls [va_rf (Option.map ad s0), .ref (ad h0)]) (fun (u : (Option Nat) × CS) => match u with | (s0, gs) => qn gs - qn st) (fun (u : (Option Nat) × CS) => match u with | (s0, gs) => qs gs - qs st) ?_ (fun J60 => ?_)
  · intro u H locs ls hu
    obtain ⟨s0, gs⟩ := u
    obtain ⟨hf, hp, hl, hm⟩ := hu
    show W p l e _ s m _ below meth c _ _ (qn gs - qn st) (qs gs - qs st) _ (F0 m 60 ls [va_rf (Option.map ad s0), .ref (ad h0)])
    unfold fX8_init_60 at hf
    obtain ⟨hk_61, hf⟩ := gd_some hf
    refine q_pFp (ci := 10) (C := RX8) (T := TX8) (N := 12) (k := 2) (v := s0) (ty := (.array (.object "RecordBench$Make"))) hx hb hts iRX8 tyX8 tyX8_ok nmX8 hown hK hp (hp.2.2.1.ge hk_61 (by decide) (by decide) (by decide)) hk_61 (by decide) rfl rfl (by decide) rfl (hts (.fieldLink RX8 24 "RecordBench" "makes" "[LRecordBench$Make;") (by decide +kernel)) (fun _ h9 => h9) rfl hin rfl (by decide +kernel) (rf_narA rfl _) dX8_init_60 (fun H locs hp => ?_)
    obtain ⟨st_62, est_62, hf⟩ := nam_some hf
    rw [← est_62] at hp
    have hm := hm.wP est_62
    refine W.widen (k := qn st_62 - qn st) (n := qs st_62 - qs st) (by rw [est_62]; exact Nat.le_refl _) (by rw [est_62]; exact Nat.le_refl _) ?_
    have hk_61 : qk st_62 h0 = 11 := by rw [est_62]; exact hk_61
    refine lv_aload_n hx hb dX8_init_63 rfl (lv_at hl 0 rfl) ?_
    have lthk_61 := hp.2.2.1.lt (i := h0) (by rw [hk_61]; decide)
    obtain ⟨st_63, est_63, hf⟩ := nam_some hf
    have hmr := mo_X8_init_67 h0 _ _ _ hf
    refine q_new (ci := 8) (C := RX6) (T := TX6) (N := 6) hx hb hts iRX6 tyX6 tyX6_ok hown (hts (.classLink RX8 28 RX6) (by decide +kernel)) (hts (.instantiable RX6 6) (by decide +kernel)) (hts (.initialized RX6) (by decide +kernel)) hK hp hA (by decide) rfl rfl dvX6 (by show qn st_62 - qn st + 1 ≤ qn st' - qn st; have := hmr.1; have := hm.1; have := (wN_n est_63).1; omega) (by show qs st_62 - qs st + 6 ≤ qs st' - qs st; have := hmr.2.1; have := hm.2.1; have := (wN_n est_63).2; omega) dX8_init_64 (fun H hp => ?_)
    rw [← est_63] at hp
    have hk_61 : qk st_63 h0 = 11 := by rw [est_63]; exact (va_up_ne _ _ (Nat.ne_of_lt lthk_61)).trans hk_61
    refine W.widen (k := qn st_63 - qn st) (n := qs st_63 - qs st) (by have := hm.1; have := (wN_n est_63).1; omega) (by have := hm.2.1; have := (wN_n est_63).2; omega) ?_
    have hm := hm.wN est_63
    exact J67 ((some (qn st_62)), st_63) _ _ _ ⟨hf, hp, (lv_sub hl [0] rfl), hm⟩
  refine W_lpA (fun n28 (u : Int32 × CS) H locs ls => match u with | (l1, gs) => fX8_init_28 h0 n28 l1 gs = some st' ∧ Cp (dC, dI) ka ad ct A s.heap gs H locs ∧ lv_has ls 2 [(0, .ref (ad h0)), (1, .int l1)] ∧ Mo st gs) (fun (u : Int32 × CS) ls => match u with | (l1, gs) => F0 m 28 ls []) (fun (u : Int32 × CS) => match u with | (l1, gs) => qn gs - qn st) (fun (u : Int32 × CS) => match u with | (l1, gs) => qs gs - qs st) ?_ ?_ (fun J28 => ?_)
  · intro u H locs ls hu
    obtain ⟨l1, gs⟩ := u
    obtain ⟨hf, hp, hl, hm⟩ := hu
    rw [fX8_init_28_z] at hf
    cases hf
  · intro n28 ih28 u H locs ls hu
    obtain ⟨l1, gs⟩ := u
    obtain ⟨hf, hp, hl, hm⟩ := hu
    show W p l e _ s m _ below meth c _ _ (qn gs - qn st) (qs gs - qs st) _ (F0 m 28 ls [])
    refine W_blkA (fun (u : Int32 × (Option Nat) × Int32 × (Option Nat) × CS) H locs ls => match u with | (l1, s0, s1, s2, gs) => fX8_init_47 h0 (fX8_init_28 h0 n28) l1 s0 s1 s2 gs = some st' ∧ Cp (dC, dI) ka ad ct A s.heap gs H locs ∧ lv_has ls 2 [(0, .ref (ad h0)), (1, .int l1)] ∧ Mo st gs) (fun (u : Int32 × (Option Nat) × Int32 × (Option Nat) × CS) ls => match u with | (l1, s0, s1, s2, gs) => F0 m 47 ls [va_rf (Option.map ad s0), .int s1, va_rf (Option.map ad s2)]) (fun (u : Int32 × (Option Nat) × Int32 × (Option Nat) × CS) => match u with | (l1, s0, s1, s2, gs) => qn gs - qn st) (fun (u : Int32 × (Option Nat) × Int32 × (Option Nat) × CS) => match u with | (l1, s0, s1, s2, gs) => qs gs - qs st) ?_ (fun J47 => ?_)
    · intro u H locs ls hu
      obtain ⟨l1, s0, s1, s2, gs⟩ := u
      obtain ⟨hf, hp, hl, hm⟩ := hu
      show W p l e _ s m _ below meth c _ _ (qn gs - qn st) (qs gs - qs st) _ (F0 m 47 ls [va_rf (Option.map ad s0), .int s1, va_rf (Option.map ad s2)])
      unfold fX8_init_47 at hf
      obtain ⟨a_64, ha_65, hf⟩ := ono_some hf
      refine o_at ha_65 ?_
      obtain ⟨hk_66, hf⟩ := gd_some hf
      obtain ⟨a_67, ha_68, hf⟩ := ono_some hf
      refine o_at2 ha_68 ?_
      obtain ⟨hk_69, hf⟩ := gd_some hf
      obtain ⟨g_70, hf⟩ := gd_some hf
      refine q_sq (t0 := 2) (cj := 7) hx hb hK hp hk_69 (by decide) rfl hk_66 (by decide) (by decide) rfl g_70 dX8_init_47 (fun H locs hp => ?_)
      obtain ⟨st_71, est_71, hf⟩ := nam_some hf
      rw [← est_71] at hp
      have hm := hm.wP est_71
      refine W.widen (k := qn st_71 - qn st) (n := qs st_71 - qs st) (by rw [est_71]; exact Nat.le_refl _) (by rw [est_71]; exact Nat.le_refl _) ?_
      have hk_66 : qk st_71 a_64 = 8 := by rw [est_71]; exact hk_66
      have hk_69 : qk st_71 a_67 = 23 := by rw [est_71]; exact hk_69
      obtain ⟨v_72, ev_72, hf⟩ := nam_some hf
      refine lv_iinc (v := v_72) (lv' := [(1, .int v_72), (0, .ref (ad h0))]) hx hb dX8_init_48 hl (k := 1) rfl ev_72.symm (by decide) rfl (fun ls hl => ?_)
      refine lv_goto (tgt := 28) hx hb dX8_init_51 (by decide) ?_
      exact ih28 (v_72, st_71) _ _ _ ⟨hf, hp, (lv_sub hl [1, 0] rfl), hm⟩
    refine W_blkA (fun (u : Int32 × (Option Nat) × Int32 × (Option Nat) × CS) H locs ls => match u with | (l1, s0, s1, s2, gs) => fX8_init_41 h0 (fX8_init_28 h0 n28) l1 s0 s1 s2 gs = some st' ∧ Cp (dC, dI) ka ad ct A s.heap gs H locs ∧ lv_has ls 2 [(0, .ref (ad h0)), (1, .int l1)] ∧ Mo st gs) (fun (u : Int32 × (Option Nat) × Int32 × (Option Nat) × CS) ls => match u with | (l1, s0, s1, s2, gs) => F0 m 41 ls [va_rf (Option.map ad s0), .int s1, va_rf (Option.map ad s2)]) (fun (u : Int32 × (Option Nat) × Int32 × (Option Nat) × CS) => match u with | (l1, s0, s1, s2, gs) => qn gs - qn st) (fun (u : Int32 × (Option Nat) × Int32 × (Option Nat) × CS) => match u with | (l1, s0, s1, s2, gs) => qs gs - qs st) ?_ (fun J41 => ?_)
    · intro u H locs ls hu
      obtain ⟨l1, s0, s1, s2, gs⟩ := u
      obtain ⟨hf, hp, hl, hm⟩ := hu
      show W p l e _ s m _ below meth c _ _ (qn gs - qn st) (qs gs - qs st) _ (F0 m 41 ls [va_rf (Option.map ad s0), .int s1, va_rf (Option.map ad s2)])
      unfold fX8_init_41 at hf
      refine lv_dup hx hb dX8_init_41 (rf_cat _) ?_
      refine lv_bipush (v := 120) hx hb dX8_init_42 (by decide) ?_
      obtain ⟨a_73, ha_74, hf⟩ := ono_some hf
      refine o_at1 ha_74 ?_
      obtain ⟨hk_75, hf⟩ := gd_some hf
      obtain ⟨st_76, hc_77, hf⟩ := bnv_some hf
      have lthk_75 := hp.2.2.1.lt (i := a_73) (by rw [hk_75]; decide)
      have hmc := (mo_X5_init a_73 120 _ _ hc_77)
      have hmr := mo_X8_init_47 h0 (fX8_init_28 h0 n28) (mo_X8_init_28 h0 n28) _ _ _ _ _ _ hf
      refine q_cv hp hA (va_runI (As := [.int 120]) (rest := [va_rf (Option.map ad s0), .int s1, va_rf (Option.map ad s2)]) ⟨hx, hb, hml, hown, hts⟩ (c_X5_init l dC dI ka ad ct a_73 120 _ _ hc_77 _) (cwI 1 hts gq_X8_init_X5_init_11 rfl rfl rfl (hts (.initialized RX5) (by decide +kernel)) (hts (.methodLink RX8 11 yX5_init) (by decide +kernel)) (hts (.instanceMethod yX5_init) (by decide +kernel)) rfl (by decide +kernel) ⟨Nat.le_of_ble_eq_true rfl, Nat.le_of_ble_eq_true rfl⟩) ⟨PrC.blind _, q_pre hp hK hN hZ hC hR hL hA⟩ rfl rfl hl.1 rfl (lv_room (by simp [rf_cat, vc_i, vc_l, vc_r, vc_n])) dX8_init_44 ⟨by show qn gs - qn st + (qn st_76 - qn gs) ≤ qn st' - qn st; have := hmr.1; have := hm.1; have := hmc.1; omega, by show qs gs - qs st + (qs st_76 - qs gs) ≤ qs st' - qs st; have := hmr.2.1; have := hm.2.1; have := hmc.2.1; omega⟩) (fun H locs hp => ?_)
      have hk_75 : qk st_76 a_73 = 8 := ((mo_X5_init a_73 120 _ _ hc_77).2.2 _ lthk_75).1.trans hk_75
      refine W.widen (k := qn st_76 - qn st) (n := qs st_76 - qs st) (by have := hm.1; have := hmc.1; omega) (by have := hm.2.1; have := hmc.2.1; omega) ?_
      have hm := hm.tr hmc
      exact J47 (l1, s0, s1, s2, st_76) _ _ _ ⟨hf, hp, (lv_sub hl [0, 1] rfl), hm⟩
    rw [fX8_init_28_s] at hf
    refine lv_iload_n hx hb dX8_init_28 rfl (lv_at hl 1 rfl) ?_
    refine lv_iconst (v := 4) hx hb dX8_init_29 (by decide) ?_
    refine lv_icmp_ge (tgt := 54) hx hb dX8_init_30 (by decide) (fun c_79 => ?_) (fun c_79 => ?_)
    · have hf := pif_t c_79 hf
      refine lv_aload_n hx hb dX8_init_54 rfl (lv_at hl 0 rfl) ?_
      refine lv_bipush (v := 8) hx hb dX8_init_55 (by decide) ?_
      obtain ⟨g_80, hf⟩ := gd_some hf
      obtain ⟨st_81, est_81, hf⟩ := nam_some hf
      have hmr := mo_X8_init_60 h0 _ _ _ hf
      refine q_newq (kd := 24) (t0 := 3) (E := RX1) hx hb hown (hts (.classLink RX8 22 RX1) (by decide +kernel)) (hN.2 RX1 (by decide)) hK hp hA (by decide) rfl g_80.1 g_80.2 (by show qn gs - qn st + 1 ≤ qn st' - qn st; have := hmr.1; have := hm.1; have := (wN_n est_81).1; omega) (by show qs gs - qs st + (8 : Int32).toNatClampNeg ≤ qs st' - qs st; have := hmr.2.1; have := hm.2.1; have := (wN_n est_81).2; omega) dX8_init_57 (fun H hp => ?_)
      rw [← est_81] at hp
      refine W.widen (k := qn st_81 - qn st) (n := qs st_81 - qs st) (by have := hm.1; have := (wN_n est_81).1; omega) (by have := hm.2.1; have := (wN_n est_81).2; omega) ?_
      have hm := hm.wN est_81
      exact J60 ((some (qn gs)), st_81) _ _ _ ⟨hf, hp, (lv_sub hl [0] rfl), hm⟩
    · have hf := pif_f c_79 hf
      refine lv_aload_n hx hb dX8_init_33 rfl (lv_at hl 0 rfl) ?_
      obtain ⟨hk_82, hf⟩ := gd_some hf
      refine q_gp (ci := 10) (C := RX8) (T := TX8) (N := 12) (k := 1) hx hb hts iRX8 hown hK hp hk_82 (by decide) rfl rfl (by decide) rfl (Or.inl (hts (.fieldLink RX8 18 "RecordBench" "records" "[LRecordBench$Row;") (by decide +kernel))) (fun _ h9 => h9) dX8_init_34 ?_
      refine lv_iload_n hx hb dX8_init_37 rfl (lv_at hl 1 rfl) ?_
      have lthk_82 := hp.2.2.1.lt (i := h0) (by rw [hk_82]; decide)
      obtain ⟨st_83, est_83, hf⟩ := nam_some hf
      have hmr := mo_X8_init_41 h0 (fX8_init_28 h0 n28) (mo_X8_init_28 h0 n28) _ _ _ _ _ _ hf
      refine q_new (ci := 7) (C := RX5) (T := TX5) (N := 2) hx hb hts iRX5 tyX5 tyX5_ok hown (hts (.classLink RX8 7 RX5) (by decide +kernel)) (hts (.instantiable RX5 2) (by decide +kernel)) (hts (.initialized RX5) (by decide +kernel)) hK hp hA (by decide) rfl rfl dvX5 (by show qn gs - qn st + 1 ≤ qn st' - qn st; have := hmr.1; have := hm.1; have := (wN_n est_83).1; omega) (by show qs gs - qs st + 2 ≤ qs st' - qs st; have := hmr.2.1; have := hm.2.1; have := (wN_n est_83).2; omega) dX8_init_38 (fun H hp => ?_)
      rw [← est_83] at hp
      have hk_82 : qk st_83 h0 = 11 := by rw [est_83]; exact (va_up_ne _ _ (Nat.ne_of_lt lthk_82)).trans hk_82
      refine W.widen (k := qn st_83 - qn st) (n := qs st_83 - qs st) (by have := hm.1; have := (wN_n est_83).1; omega) (by have := hm.2.1; have := (wN_n est_83).2; omega) ?_
      have hm := hm.wN est_83
      exact J41 (l1, (some (qn gs)), l1, (qP gs h0 1), st_83) _ _ _ ⟨hf, hp, (lv_sub hl [0, 1] rfl), hm⟩
  refine W_blkA (fun (u : (Option Nat) × CS) H locs ls => match u with | (s0, gs) => fX8_init_23 h0 s0 gs = some st' ∧ Cp (dC, dI) ka ad ct A s.heap gs H locs ∧ lv_has ls 2 [(0, .ref (ad h0))] ∧ Mo st gs) (fun (u : (Option Nat) × CS) ls => match u with | (s0, gs) => F0 m 23 ls [va_rf (Option.map ad s0), .ref (ad h0)]) (fun (u : (Option Nat) × CS) => match u with | (s0, gs) => qn gs - qn st) (fun (u : (Option Nat) × CS) => match u with | (s0, gs) => qs gs - qs st) ?_ (fun J23 => ?_)
  · intro u H locs ls hu
    obtain ⟨s0, gs⟩ := u
    obtain ⟨hf, hp, hl, hm⟩ := hu
    show W p l e _ s m _ below meth c _ _ (qn gs - qn st) (qs gs - qs st) _ (F0 m 23 ls [va_rf (Option.map ad s0), .ref (ad h0)])
    unfold fX8_init_23 at hf
    obtain ⟨hk_84, hf⟩ := gd_some hf
    refine q_pFp (ci := 10) (C := RX8) (T := TX8) (N := 12) (k := 1) (v := s0) (ty := (.array (.object "RecordBench$Row"))) hx hb hts iRX8 tyX8 tyX8_ok nmX8 hown hK hp (hp.2.2.1.ge hk_84 (by decide) (by decide) (by decide)) hk_84 (by decide) rfl rfl (by decide) rfl (hts (.fieldLink RX8 18 "RecordBench" "records" "[LRecordBench$Row;") (by decide +kernel)) (fun _ h9 => h9) rfl hin rfl (by decide +kernel) (rf_narA rfl _) dX8_init_23 (fun H locs hp => ?_)
    obtain ⟨st_85, est_85, hf⟩ := nam_some hf
    rw [← est_85] at hp
    have hm := hm.wP est_85
    refine W.widen (k := qn st_85 - qn st) (n := qs st_85 - qs st) (by rw [est_85]; exact Nat.le_refl _) (by rw [est_85]; exact Nat.le_refl _) ?_
    have hk_84 : qk st_85 h0 = 11 := by rw [est_85]; exact hk_84
    refine lv_iconst (v := 0) hx hb dX8_init_26 (by decide) ?_
    refine lv_istore_n (i := 1) (lv' := [(1, .int 0), (0, .ref (ad h0))]) hx hb dX8_init_27 rfl hl (by decide) rfl (fun ls hl => ?_)
    exact J28 fuel (0, st_85) _ _ _ ⟨hf, hp, (lv_sub hl [1, 0] rfl), hm⟩
  refine W_blkA (fun (u : (Option Nat) × CS) H locs ls => match u with | (s0, gs) => fX8_init_15 h0 s0 gs = some st' ∧ Cp (dC, dI) ka ad ct A s.heap gs H locs ∧ lv_has ls 2 [(0, .ref (ad h0))] ∧ Mo st gs) (fun (u : (Option Nat) × CS) ls => match u with | (s0, gs) => F0 m 15 ls [va_rf (Option.map ad s0), .ref (ad h0)]) (fun (u : (Option Nat) × CS) => match u with | (s0, gs) => qn gs - qn st) (fun (u : (Option Nat) × CS) => match u with | (s0, gs) => qs gs - qs st) ?_ (fun J15 => ?_)
  · intro u H locs ls hu
    obtain ⟨s0, gs⟩ := u
    obtain ⟨hf, hp, hl, hm⟩ := hu
    show W p l e _ s m _ below meth c _ _ (qn gs - qn st) (qs gs - qs st) _ (F0 m 15 ls [va_rf (Option.map ad s0), .ref (ad h0)])
    unfold fX8_init_15 at hf
    obtain ⟨hk_86, hf⟩ := gd_some hf
    refine q_pFp (ci := 10) (C := RX8) (T := TX8) (N := 12) (k := 0) (v := s0) (ty := (.object "RecordBench$Row")) hx hb hts iRX8 tyX8 tyX8_ok nmX8 hown hK hp (hp.2.2.1.ge hk_86 (by decide) (by decide) (by decide)) hk_86 (by decide) rfl rfl (by decide) rfl (hts (.fieldLink RX8 14 "RecordBench" "tape" "LRecordBench$Row;") (by decide +kernel)) (fun _ h9 => h9) rfl hin rfl (by decide +kernel) (rf_nar rfl _) dX8_init_15 (fun H locs hp => ?_)
    obtain ⟨st_87, est_87, hf⟩ := nam_some hf
    rw [← est_87] at hp
    have hm := hm.wP est_87
    refine W.widen (k := qn st_87 - qn st) (n := qs st_87 - qs st) (by rw [est_87]; exact Nat.le_refl _) (by rw [est_87]; exact Nat.le_refl _) ?_
    have hk_86 : qk st_87 h0 = 11 := by rw [est_87]; exact hk_86
    refine lv_aload_n hx hb dX8_init_18 rfl (lv_at hl 0 rfl) ?_
    refine lv_iconst (v := 4) hx hb dX8_init_19 (by decide) ?_
    obtain ⟨g_88, hf⟩ := gd_some hf
    have lthk_86 := hp.2.2.1.lt (i := h0) (by rw [hk_86]; decide)
    obtain ⟨st_89, est_89, hf⟩ := nam_some hf
    have hmr := mo_X8_init_23 h0 _ _ _ hf
    refine q_newq (kd := 23) (t0 := 2) (E := RX5) hx hb hown (hts (.classLink RX8 7 RX5) (by decide +kernel)) (hN.2 RX5 (by decide)) hK hp hA (by decide) rfl g_88.1 g_88.2 (by show qn st_87 - qn st + 1 ≤ qn st' - qn st; have := hmr.1; have := hm.1; have := (wN_n est_89).1; omega) (by show qs st_87 - qs st + (4 : Int32).toNatClampNeg ≤ qs st' - qs st; have := hmr.2.1; have := hm.2.1; have := (wN_n est_89).2; omega) dX8_init_20 (fun H hp => ?_)
    rw [← est_89] at hp
    have hk_86 : qk st_89 h0 = 11 := by rw [est_89]; exact (va_up_ne _ _ (Nat.ne_of_lt lthk_86)).trans hk_86
    refine W.widen (k := qn st_89 - qn st) (n := qs st_89 - qs st) (by have := hm.1; have := (wN_n est_89).1; omega) (by have := hm.2.1; have := (wN_n est_89).2; omega) ?_
    have hm := hm.wN est_89
    exact J23 ((some (qn st_87)), st_89) _ _ _ ⟨hf, hp, (lv_sub hl [0] rfl), hm⟩
  refine W_blkA (fun (u : (Option Nat) × CS) H locs ls => match u with | (s0, gs) => fX8_init_8 h0 s0 gs = some st' ∧ Cp (dC, dI) ka ad ct A s.heap gs H locs ∧ lv_has ls 2 [(0, .ref (ad h0))] ∧ Mo st gs) (fun (u : (Option Nat) × CS) ls => match u with | (s0, gs) => F0 m 8 ls [va_rf (Option.map ad s0), .ref (ad h0)]) (fun (u : (Option Nat) × CS) => match u with | (s0, gs) => qn gs - qn st) (fun (u : (Option Nat) × CS) => match u with | (s0, gs) => qs gs - qs st) ?_ (fun J8 => ?_)
  · intro u H locs ls hu
    obtain ⟨s0, gs⟩ := u
    obtain ⟨hf, hp, hl, hm⟩ := hu
    show W p l e _ s m _ below meth c _ _ (qn gs - qn st) (qs gs - qs st) _ (F0 m 8 ls [va_rf (Option.map ad s0), .ref (ad h0)])
    unfold fX8_init_8 at hf
    refine lv_dup hx hb dX8_init_8 (rf_cat _) ?_
    refine lv_sipush (v := 400) hx hb dX8_init_9 (by decide) ?_
    obtain ⟨a_90, ha_91, hf⟩ := ono_some hf
    refine o_at1 ha_91 ?_
    obtain ⟨hk_92, hf⟩ := gd_some hf
    obtain ⟨st_93, hc_94, hf⟩ := bnv_some hf
    have lthk_92 := hp.2.2.1.lt (i := a_90) (by rw [hk_92]; decide)
    have hmc := (mo_X5_init a_90 400 _ _ hc_94)
    have hmr := mo_X8_init_15 h0 _ _ _ hf
    refine q_cv hp hA (va_runI (As := [.int 400]) (rest := [va_rf (Option.map ad s0), .ref (ad h0)]) ⟨hx, hb, hml, hown, hts⟩ (c_X5_init l dC dI ka ad ct a_90 400 _ _ hc_94 _) (cwI 1 hts gq_X8_init_X5_init_11 rfl rfl rfl (hts (.initialized RX5) (by decide +kernel)) (hts (.methodLink RX8 11 yX5_init) (by decide +kernel)) (hts (.instanceMethod yX5_init) (by decide +kernel)) rfl (by decide +kernel) ⟨Nat.le_of_ble_eq_true rfl, Nat.le_of_ble_eq_true rfl⟩) ⟨PrC.blind _, q_pre hp hK hN hZ hC hR hL hA⟩ rfl rfl hl.1 rfl (lv_room (by simp [rf_cat, vc_i, vc_l, vc_r, vc_n])) dX8_init_12 ⟨by show qn gs - qn st + (qn st_93 - qn gs) ≤ qn st' - qn st; have := hmr.1; have := hm.1; have := hmc.1; omega, by show qs gs - qs st + (qs st_93 - qs gs) ≤ qs st' - qs st; have := hmr.2.1; have := hm.2.1; have := hmc.2.1; omega⟩) (fun H locs hp => ?_)
    have hk_92 : qk st_93 a_90 = 8 := ((mo_X5_init a_90 400 _ _ hc_94).2.2 _ lthk_92).1.trans hk_92
    refine W.widen (k := qn st_93 - qn st) (n := qs st_93 - qs st) (by have := hm.1; have := hmc.1; omega) (by have := hm.2.1; have := hmc.2.1; omega) ?_
    have hm := hm.tr hmc
    exact J15 (s0, st_93) _ _ _ ⟨hf, hp, (lv_sub hl [0] rfl), hm⟩
  refine W_blkA (fun (gs : CS) H locs ls => fX8_init_4 h0 gs = some st' ∧ Cp (dC, dI) ka ad ct A s.heap gs H locs ∧ lv_has ls 2 [(0, .ref (ad h0))] ∧ Mo st gs) (fun (gs : CS) ls => F0 m 4 ls []) (fun (gs : CS) => qn gs - qn st) (fun (gs : CS) => qs gs - qs st) ?_ (fun J4 => ?_)
  · intro u H locs ls hu
    obtain ⟨gs, rfl⟩ : ∃ z, z = u := ⟨_, rfl⟩
    obtain ⟨hf, hp, hl, hm⟩ := hu
    show W p l e _ s m _ below meth c _ _ (qn gs - qn st) (qs gs - qs st) _ (F0 m 4 ls [])
    unfold fX8_init_4 at hf
    refine lv_aload_n hx hb dX8_init_4 rfl (lv_at hl 0 rfl) ?_
    obtain ⟨st_96, est_96, hf⟩ := nam_some hf
    have hmr := mo_X8_init_8 h0 _ _ _ hf
    refine q_new (ci := 7) (C := RX5) (T := TX5) (N := 2) hx hb hts iRX5 tyX5 tyX5_ok hown (hts (.classLink RX8 7 RX5) (by decide +kernel)) (hts (.instantiable RX5 2) (by decide +kernel)) (hts (.initialized RX5) (by decide +kernel)) hK hp hA (by decide) rfl rfl dvX5 (by show qn gs - qn st + 1 ≤ qn st' - qn st; have := hmr.1; have := hm.1; have := (wN_n est_96).1; omega) (by show qs gs - qs st + 2 ≤ qs st' - qs st; have := hmr.2.1; have := hm.2.1; have := (wN_n est_96).2; omega) dX8_init_5 (fun H hp => ?_)
    rw [← est_96] at hp
    refine W.widen (k := qn st_96 - qn st) (n := qs st_96 - qs st) (by have := hm.1; have := (wN_n est_96).1; omega) (by have := hm.2.1; have := (wN_n est_96).2; omega) ?_
    have hm := hm.wN est_96
    exact J8 ((some (qn gs)), st_96) _ _ _ ⟨hf, hp, (lv_sub hl [0] rfl), hm⟩
  unfold fX8_init at hf
  refine lv_aload_n hx hb dX8_init_0 rfl (lv_at hl 0 rfl) ?_
  refine W.objInit hx hb hown (hts (.methodLink RX8 1 objectInit) (by decide +kernel)) (hts (.instanceMethod objectInit) (by decide +kernel)) (hts (.code objectInit ⟨#[0xb1]⟩ 1 none) (by decide +kernel)) rfl (by rw [hml]; exact hl.1) rfl dX8_init_1 (Nat.le_of_ble_eq_true rfl) (Nat.le_of_ble_eq_true rfl) ?_
  refine W.eq (g2 := F0 m 4 ls []) rfl ?_
  exact J4 st _ _ _ ⟨hf, hp, (lv_sub hl [0] rfl), hm⟩
