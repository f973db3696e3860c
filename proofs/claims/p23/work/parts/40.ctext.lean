theorem dX0_init_0 : decode cX0_init 0 = .ok (.aload_n 0, 1) := by decide +kernel
theorem dX0_init_1 : decode cX0_init 1 = .ok (.invokespecial 3, 3) := by decide +kernel
theorem dX0_init_10 : decode cX0_init 10 = .ok (.iconst 0, 1) := by decide +kernel
theorem dX0_init_11 : decode cX0_init 11 = .ok (.putfield 15, 3) := by decide +kernel
theorem dX0_init_14 : decode cX0_init 14 = .ok (.aload_n 0, 1) := by decide +kernel
theorem dX0_init_15 : decode cX0_init 15 = .ok (.iconst 0, 1) := by decide +kernel
theorem dX0_init_16 : decode cX0_init 16 = .ok (.putfield 18, 3) := by decide +kernel
theorem dX0_init_19 : decode cX0_init 19 = .ok (.aload_n 0, 1) := by decide +kernel
theorem dX0_init_20 : decode cX0_init 20 = .ok (.iconst (-1), 1) := by decide +kernel
theorem dX0_init_21 : decode cX0_init 21 = .ok (.putfield 21, 3) := by decide +kernel
theorem dX0_init_24 : decode cX0_init 24 = .ok (.aload_n 0, 1) := by decide +kernel
theorem dX0_init_25 : decode cX0_init 25 = .ok (.ldc 24, 2) := by decide +kernel
theorem dX0_init_27 : decode cX0_init 27 = .ok (.putfield 26, 3) := by decide +kernel
theorem dX0_init_30 : decode cX0_init 30 = .ok (.aload_n 0, 1) := by decide +kernel
theorem dX0_init_31 : decode cX0_init 31 = .ok (.ldc 24, 2) := by decide +kernel
theorem dX0_init_33 : decode cX0_init 33 = .ok (.putfield 30, 3) := by decide +kernel
theorem dX0_init_36 : decode cX0_init 36 = .ok (.aload_n 0, 1) := by decide +kernel
theorem dX0_init_37 : decode cX0_init 37 = .ok (.lconst 0, 1) := by decide +kernel
theorem dX0_init_38 : decode cX0_init 38 = .ok (.putfield 33, 3) := by decide +kernel
theorem dX0_init_4 : decode cX0_init 4 = .ok (.aload_n 0, 1) := by decide +kernel
theorem dX0_init_41 : decode cX0_init 41 = .ok (.return_, 1) := by decide +kernel
theorem dX0_init_5 : decode cX0_init 5 = .ok (.iconst 0, 1) := by decide +kernel
theorem dX0_init_6 : decode cX0_init 6 = .ok (.putfield 9, 3) := by decide +kernel
theorem dX0_init_9 : decode cX0_init 9 = .ok (.aload_n 0, 1) := by decide +kernel
theorem dX1_add_0 : decode cX1_add 0 = .ok (.aload_n 1, 1) := by decide +kernel
theorem dX1_add_1 : decode cX1_add 1 = .ok (.getfield 38, 3) := by decide +kernel
theorem dX1_add_11 : decode cX1_add 11 = .ok (.aload_n 0, 1) := by decide +kernel
theorem dX1_add_12 : decode cX1_add 12 = .ok (.getfield 11, 3) := by decide +kernel
theorem dX1_add_15 : decode cX1_add 15 = .ok (.arraylength, 1) := by decide +kernel
theorem dX1_add_16 : decode cX1_add 16 = .ok (.if_icmp .lt 5, 3) := by decide +kernel
theorem dX1_add_19 : decode cX1_add 19 = .ok (.iconst 0, 1) := by decide +kernel
theorem dX1_add_20 : decode cX1_add 20 = .ok (.ireturn, 1) := by decide +kernel
theorem dX1_add_21 : decode cX1_add 21 = .ok (.aload_n 0, 1) := by decide +kernel
theorem dX1_add_22 : decode cX1_add 22 = .ok (.getfield 11, 3) := by decide +kernel
theorem dX1_add_25 : decode cX1_add 25 = .ok (.aload_n 1, 1) := by decide +kernel
theorem dX1_add_26 : decode cX1_add 26 = .ok (.getfield 38, 3) := by decide +kernel
theorem dX1_add_29 : decode cX1_add 29 = .ok (.aload_n 1, 1) := by decide +kernel
theorem dX1_add_30 : decode cX1_add 30 = .ok (.aastore, 1) := by decide +kernel
theorem dX1_add_31 : decode cX1_add 31 = .ok (.aload_n 0, 1) := by decide +kernel
theorem dX1_add_32 : decode cX1_add 32 = .ok (.dup, 1) := by decide +kernel
theorem dX1_add_33 : decode cX1_add 33 = .ok (.getfield 17, 3) := by decide +kernel
theorem dX1_add_36 : decode cX1_add 36 = .ok (.iconst 1, 1) := by decide +kernel
theorem dX1_add_37 : decode cX1_add 37 = .ok (.iadd, 1) := by decide +kernel
theorem dX1_add_38 : decode cX1_add 38 = .ok (.putfield 17, 3) := by decide +kernel
theorem dX1_add_4 : decode cX1_add 4 = .ok (.ifCond .lt 15, 3) := by decide +kernel
theorem dX1_add_41 : decode cX1_add 41 = .ok (.iconst 1, 1) := by decide +kernel
theorem dX1_add_42 : decode cX1_add 42 = .ok (.ireturn, 1) := by decide +kernel
theorem dX1_add_7 : decode cX1_add 7 = .ok (.aload_n 1, 1) := by decide +kernel
theorem dX1_add_8 : decode cX1_add 8 = .ok (.getfield 38, 3) := by decide +kernel
theorem dX1_hasName_0 : decode cX1_hasName 0 = .ok (.iconst 0, 1) := by decide +kernel
theorem dX1_hasName_1 : decode cX1_hasName 1 = .ok (.istore_n 2, 1) := by decide +kernel
theorem dX1_hasName_11 : decode cX1_hasName 11 = .ok (.aload_n 0, 1) := by decide +kernel
theorem dX1_hasName_12 : decode cX1_hasName 12 = .ok (.getfield 11, 3) := by decide +kernel
theorem dX1_hasName_15 : decode cX1_hasName 15 = .ok (.iload_n 2, 1) := by decide +kernel
theorem dX1_hasName_16 : decode cX1_hasName 16 = .ok (.aaload, 1) := by decide +kernel
theorem dX1_hasName_17 : decode cX1_hasName 17 = .ok (.astore_n 3, 1) := by decide +kernel
theorem dX1_hasName_18 : decode cX1_hasName 18 = .ok (.aload_n 3, 1) := by decide +kernel
theorem dX1_hasName_19 : decode cX1_hasName 19 = .ok (.ifnull 16, 3) := by decide +kernel
theorem dX1_hasName_2 : decode cX1_hasName 2 = .ok (.iload_n 2, 1) := by decide +kernel
theorem dX1_hasName_22 : decode cX1_hasName 22 = .ok (.aload_n 3, 1) := by decide +kernel
theorem dX1_hasName_23 : decode cX1_hasName 23 = .ok (.getfield 28, 3) := by decide +kernel
theorem dX1_hasName_26 : decode cX1_hasName 26 = .ok (.aload_n 1, 1) := by decide +kernel
theorem dX1_hasName_27 : decode cX1_hasName 27 = .ok (.invokevirtual 32, 3) := by decide +kernel
theorem dX1_hasName_3 : decode cX1_hasName 3 = .ok (.aload_n 0, 1) := by decide +kernel
theorem dX1_hasName_30 : decode cX1_hasName 30 = .ok (.ifCond .eq 5, 3) := by decide +kernel
theorem dX1_hasName_33 : decode cX1_hasName 33 = .ok (.iconst 1, 1) := by decide +kernel
theorem dX1_hasName_34 : decode cX1_hasName 34 = .ok (.ireturn, 1) := by decide +kernel
theorem dX1_hasName_35 : decode cX1_hasName 35 = .ok (.iinc 2 1, 3) := by decide +kernel
theorem dX1_hasName_38 : decode cX1_hasName 38 = .ok (.goto (-36), 3) := by decide +kernel
theorem dX1_hasName_4 : decode cX1_hasName 4 = .ok (.getfield 11, 3) := by decide +kernel
theorem dX1_hasName_41 : decode cX1_hasName 41 = .ok (.iconst 0, 1) := by decide +kernel
theorem dX1_hasName_42 : decode cX1_hasName 42 = .ok (.ireturn, 1) := by decide +kernel
theorem dX1_hasName_7 : decode cX1_hasName 7 = .ok (.arraylength, 1) := by decide +kernel
theorem dX1_hasName_8 : decode cX1_hasName 8 = .ok (.if_icmp .ge 33, 3) := by decide +kernel
theorem dX1_init_0 : decode cX1_init 0 = .ok (.aload_n 0, 1) := by decide +kernel
theorem dX1_init_1 : decode cX1_init 1 = .ok (.invokespecial 3, 3) := by decide +kernel
theorem dX1_init_10 : decode cX1_init 10 = .ok (.putfield 11, 3) := by decide +kernel
theorem dX1_init_13 : decode cX1_init 13 = .ok (.aload_n 0, 1) := by decide +kernel
theorem dX1_init_14 : decode cX1_init 14 = .ok (.iconst 0, 1) := by decide +kernel
theorem dX1_init_15 : decode cX1_init 15 = .ok (.putfield 17, 3) := by decide +kernel
theorem dX1_init_18 : decode cX1_init 18 = .ok (.return_, 1) := by decide +kernel
theorem dX1_init_4 : decode cX1_init 4 = .ok (.aload_n 0, 1) := by decide +kernel
theorem dX1_init_5 : decode cX1_init 5 = .ok (.bipush 31, 2) := by decide +kernel
theorem dX1_init_7 : decode cX1_init 7 = .ok (.anewarray 9, 3) := by decide +kernel
theorem dX6_digitAt_0 : decode cX6_digitAt 0 = .ok (.aload_n 0, 1) := by decide +kernel
theorem dX6_digitAt_1 : decode cX6_digitAt 1 = .ok (.getfield 9, 3) := by decide +kernel
theorem dX6_digitAt_10 : decode cX6_digitAt 10 = .ok (.bipush 48, 2) := by decide +kernel
theorem dX6_digitAt_12 : decode cX6_digitAt 12 = .ok (.if_icmp .lt 16, 3) := by decide +kernel
theorem dX6_digitAt_15 : decode cX6_digitAt 15 = .ok (.iload_n 2, 1) := by decide +kernel
theorem dX6_digitAt_16 : decode cX6_digitAt 16 = .ok (.bipush 57, 2) := by decide +kernel
theorem dX6_digitAt_18 : decode cX6_digitAt 18 = .ok (.if_icmp .gt 10, 3) := by decide +kernel
theorem dX6_digitAt_21 : decode cX6_digitAt 21 = .ok (.iload_n 2, 1) := by decide +kernel
theorem dX6_digitAt_22 : decode cX6_digitAt 22 = .ok (.bipush 48, 2) := by decide +kernel
theorem dX6_digitAt_24 : decode cX6_digitAt 24 = .ok (.isub, 1) := by decide +kernel
theorem dX6_digitAt_25 : decode cX6_digitAt 25 = .ok (.goto 4, 3) := by decide +kernel
theorem dX6_digitAt_28 : decode cX6_digitAt 28 = .ok (.iconst (-1), 1) := by decide +kernel
theorem dX6_digitAt_29 : decode cX6_digitAt 29 = .ok (.ireturn, 1) := by decide +kernel
theorem dX6_digitAt_4 : decode cX6_digitAt 4 = .ok (.iload_n 1, 1) := by decide +kernel
theorem dX6_digitAt_5 : decode cX6_digitAt 5 = .ok (.invokevirtual 150, 3) := by decide +kernel
theorem dX6_digitAt_8 : decode cX6_digitAt 8 = .ok (.istore_n 2, 1) := by decide +kernel
theorem dX6_digitAt_9 : decode cX6_digitAt 9 = .ok (.iload_n 2, 1) := by decide +kernel
theorem dX6_faultFound_0 : decode cX6_faultFound 0 = .ok (.aload_n 0, 1) := by decide +kernel
theorem dX6_faultFound_1 : decode cX6_faultFound 1 = .ok (.getfield 30, 3) := by decide +kernel
theorem dX6_faultFound_4 : decode cX6_faultFound 4 = .ok (.ireturn, 1) := by decide +kernel
theorem dX6_isBlank_0 : decode cX6_isBlank 0 = .ok (.iload_n 0, 1) := by decide +kernel
theorem dX6_isBlank_1 : decode cX6_isBlank 1 = .ok (.bipush 10, 2) := by decide +kernel
theorem dX6_isBlank_12 : decode cX6_isBlank 12 = .ok (.iconst 1, 1) := by decide +kernel
theorem dX6_isBlank_13 : decode cX6_isBlank 13 = .ok (.goto 4, 3) := by decide +kernel
theorem dX6_isBlank_16 : decode cX6_isBlank 16 = .ok (.iconst 0, 1) := by decide +kernel
theorem dX6_isBlank_17 : decode cX6_isBlank 17 = .ok (.ireturn, 1) := by decide +kernel
theorem dX6_isBlank_3 : decode cX6_isBlank 3 = .ok (.if_icmp .eq 9, 3) := by decide +kernel
theorem dX6_isBlank_6 : decode cX6_isBlank 6 = .ok (.iload_n 0, 1) := by decide +kernel
theorem dX6_isBlank_7 : decode cX6_isBlank 7 = .ok (.bipush 32, 2) := by decide +kernel
theorem dX6_isBlank_9 : decode cX6_isBlank 9 = .ok (.if_icmp .ne 7, 3) := by decide +kernel
theorem dX6_isDigit_0 : decode cX6_isDigit 0 = .ok (.aload_n 0, 1) := by decide +kernel
theorem dX6_isDigit_1 : decode cX6_isDigit 1 = .ok (.getfield 9, 3) := by decide +kernel
theorem dX6_isDigit_10 : decode cX6_isDigit 10 = .ok (.bipush 48, 2) := by decide +kernel
theorem dX6_isDigit_12 : decode cX6_isDigit 12 = .ok (.if_icmp .lt 13, 3) := by decide +kernel
theorem dX6_isDigit_15 : decode cX6_isDigit 15 = .ok (.iload_n 2, 1) := by decide +kernel
theorem dX6_isDigit_16 : decode cX6_isDigit 16 = .ok (.bipush 57, 2) := by decide +kernel
theorem dX6_isDigit_18 : decode cX6_isDigit 18 = .ok (.if_icmp .gt 7, 3) := by decide +kernel
theorem dX6_isDigit_21 : decode cX6_isDigit 21 = .ok (.iconst 1, 1) := by decide +kernel
theorem dX6_isDigit_22 : decode cX6_isDigit 22 = .ok (.goto 4, 3) := by decide +kernel
theorem dX6_isDigit_25 : decode cX6_isDigit 25 = .ok (.iconst 0, 1) := by decide +kernel
theorem dX6_isDigit_26 : decode cX6_isDigit 26 = .ok (.ireturn, 1) := by decide +kernel
theorem dX6_isDigit_4 : decode cX6_isDigit 4 = .ok (.iload_n 1, 1) := by decide +kernel
theorem dX6_isDigit_5 : decode cX6_isDigit 5 = .ok (.invokevirtual 150, 3) := by decide +kernel
theorem dX6_isDigit_8 : decode cX6_isDigit 8 = .ok (.istore_n 2, 1) := by decide +kernel
theorem dX6_isDigit_9 : decode cX6_isDigit 9 = .ok (.iload_n 2, 1) := by decide +kernel
theorem dX6_isLetter_0 : decode cX6_isLetter 0 = .ok (.aload_n 0, 1) := by decide +kernel
theorem dX6_isLetter_1 : decode cX6_isLetter 1 = .ok (.getfield 9, 3) := by decide +kernel
theorem dX6_isLetter_10 : decode cX6_isLetter 10 = .ok (.bipush 97, 2) := by decide +kernel
theorem dX6_isLetter_12 : decode cX6_isLetter 12 = .ok (.if_icmp .lt 13, 3) := by decide +kernel
theorem dX6_isLetter_15 : decode cX6_isLetter 15 = .ok (.iload_n 2, 1) := by decide +kernel
theorem dX6_isLetter_16 : decode cX6_isLetter 16 = .ok (.bipush 122, 2) := by decide +kernel
theorem dX6_isLetter_18 : decode cX6_isLetter 18 = .ok (.if_icmp .gt 7, 3) := by decide +kernel
theorem dX6_isLetter_21 : decode cX6_isLetter 21 = .ok (.iconst 1, 1) := by decide +kernel
theorem dX6_isLetter_22 : decode cX6_isLetter 22 = .ok (.goto 4, 3) := by decide +kernel
theorem dX6_isLetter_25 : decode cX6_isLetter 25 = .ok (.iconst 0, 1) := by decide +kernel
theorem dX6_isLetter_26 : decode cX6_isLetter 26 = .ok (.ireturn, 1) := by decide +kernel
theorem dX6_isLetter_4 : decode cX6_isLetter 4 = .ok (.iload_n 1, 1) := by decide +kernel
theorem dX6_isLetter_5 : decode cX6_isLetter 5 = .ok (.invokevirtual 150, 3) := by decide +kernel
theorem dX6_isLetter_8 : decode cX6_isLetter 8 = .ok (.istore_n 2, 1) := by decide +kernel
theorem dX6_isLetter_9 : decode cX6_isLetter 9 = .ok (.iload_n 2, 1) := by decide +kernel
theorem dX6_isQuotable_0 : decode cX6_isQuotable 0 = .ok (.iload_n 0, 1) := by decide +kernel
theorem dX6_isQuotable_1 : decode cX6_isQuotable 1 = .ok (.invokestatic 192, 3) := by decide +kernel
theorem dX6_isQuotable_10 : decode cX6_isQuotable 10 = .ok (.if_icmp .eq 7, 3) := by decide +kernel
theorem dX6_isQuotable_13 : decode cX6_isQuotable 13 = .ok (.iconst 1, 1) := by decide +kernel
theorem dX6_isQuotable_14 : decode cX6_isQuotable 14 = .ok (.goto 4, 3) := by decide +kernel
theorem dX6_isQuotable_17 : decode cX6_isQuotable 17 = .ok (.iconst 0, 1) := by decide +kernel
theorem dX6_isQuotable_18 : decode cX6_isQuotable 18 = .ok (.ireturn, 1) := by decide +kernel
theorem dX6_isQuotable_4 : decode cX6_isQuotable 4 = .ok (.ifCond .eq 13, 3) := by decide +kernel
theorem dX6_isQuotable_7 : decode cX6_isQuotable 7 = .ok (.iload_n 0, 1) := by decide +kernel
theorem dX6_isQuotable_8 : decode cX6_isQuotable 8 = .ok (.bipush 34, 2) := by decide +kernel
theorem dX6_kindOf_0 : decode cX6_kindOf 0 = .ok (.aload_n 0, 1) := by decide +kernel
theorem dX6_kindOf_1 : decode cX6_kindOf 1 = .ok (.ldc 195, 2) := by decide +kernel
theorem dX6_kindOf_10 : decode cX6_kindOf 10 = .ok (.ireturn, 1) := by decide +kernel
theorem dX6_kindOf_11 : decode cX6_kindOf 11 = .ok (.aload_n 0, 1) := by decide +kernel
theorem dX6_kindOf_12 : decode cX6_kindOf 12 = .ok (.ldc 197, 2) := by decide +kernel
theorem dX6_kindOf_14 : decode cX6_kindOf 14 = .ok (.invokevirtual 120, 3) := by decide +kernel
theorem dX6_kindOf_17 : decode cX6_kindOf 17 = .ok (.ifCond .eq 5, 3) := by decide +kernel
theorem dX6_kindOf_20 : decode cX6_kindOf 20 = .ok (.iconst 2, 1) := by decide +kernel
theorem dX6_kindOf_21 : decode cX6_kindOf 21 = .ok (.ireturn, 1) := by decide +kernel
theorem dX6_kindOf_22 : decode cX6_kindOf 22 = .ok (.aload_n 0, 1) := by decide +kernel
theorem dX6_kindOf_23 : decode cX6_kindOf 23 = .ok (.ldc 199, 2) := by decide +kernel
theorem dX6_kindOf_25 : decode cX6_kindOf 25 = .ok (.invokevirtual 120, 3) := by decide +kernel
theorem dX6_kindOf_28 : decode cX6_kindOf 28 = .ok (.ifCond .eq 5, 3) := by decide +kernel
theorem dX6_kindOf_3 : decode cX6_kindOf 3 = .ok (.invokevirtual 120, 3) := by decide +kernel
theorem dX6_kindOf_31 : decode cX6_kindOf 31 = .ok (.iconst 3, 1) := by decide +kernel
theorem dX6_kindOf_32 : decode cX6_kindOf 32 = .ok (.ireturn, 1) := by decide +kernel
theorem dX6_kindOf_33 : decode cX6_kindOf 33 = .ok (.aload_n 0, 1) := by decide +kernel
theorem dX6_kindOf_34 : decode cX6_kindOf 34 = .ok (.ldc 201, 2) := by decide +kernel
theorem dX6_kindOf_36 : decode cX6_kindOf 36 = .ok (.invokevirtual 120, 3) := by decide +kernel
theorem dX6_kindOf_39 : decode cX6_kindOf 39 = .ok (.ifCond .eq 5, 3) := by decide +kernel
theorem dX6_kindOf_42 : decode cX6_kindOf 42 = .ok (.iconst 4, 1) := by decide +kernel
theorem dX6_kindOf_43 : decode cX6_kindOf 43 = .ok (.ireturn, 1) := by decide +kernel
theorem dX6_kindOf_44 : decode cX6_kindOf 44 = .ok (.aload_n 0, 1) := by decide +kernel
theorem dX6_kindOf_45 : decode cX6_kindOf 45 = .ok (.ldc 203, 2) := by decide +kernel
theorem dX6_kindOf_47 : decode cX6_kindOf 47 = .ok (.invokevirtual 120, 3) := by decide +kernel
theorem dX6_kindOf_50 : decode cX6_kindOf 50 = .ok (.ifCond .eq 5, 3) := by decide +kernel
theorem dX6_kindOf_53 : decode cX6_kindOf 53 = .ok (.iconst 5, 1) := by decide +kernel
theorem dX6_kindOf_54 : decode cX6_kindOf 54 = .ok (.ireturn, 1) := by decide +kernel
theorem dX6_kindOf_55 : decode cX6_kindOf 55 = .ok (.aload_n 0, 1) := by decide +kernel
theorem dX6_kindOf_56 : decode cX6_kindOf 56 = .ok (.ldc 204, 2) := by decide +kernel
theorem dX6_kindOf_58 : decode cX6_kindOf 58 = .ok (.invokevirtual 120, 3) := by decide +kernel
theorem dX6_kindOf_6 : decode cX6_kindOf 6 = .ok (.ifCond .eq 5, 3) := by decide +kernel
theorem dX6_kindOf_61 : decode cX6_kindOf 61 = .ok (.ifCond .eq 8, 3) := by decide +kernel
theorem dX6_kindOf_64 : decode cX6_kindOf 64 = .ok (.bipush 6, 2) := by decide +kernel
theorem dX6_kindOf_66 : decode cX6_kindOf 66 = .ok (.goto 4, 3) := by decide +kernel
theorem dX6_kindOf_69 : decode cX6_kindOf 69 = .ok (.iconst 0, 1) := by decide +kernel
theorem dX6_kindOf_70 : decode cX6_kindOf 70 = .ok (.ireturn, 1) := by decide +kernel
theorem dX6_kindOf_9 : decode cX6_kindOf 9 = .ok (.iconst 1, 1) := by decide +kernel
theorem dX6_placeFound_0 : decode cX6_placeFound 0 = .ok (.aload_n 0, 1) := by decide +kernel
theorem dX6_placeFound_1 : decode cX6_placeFound 1 = .ok (.getfield 33, 3) := by decide +kernel
theorem dX6_placeFound_4 : decode cX6_placeFound 4 = .ok (.ireturn, 1) := by decide +kernel
theorem dX6_refuse_0 : decode cX6_refuse 0 = .ok (.aload_n 0, 1) := by decide +kernel
theorem dX6_refuse_1 : decode cX6_refuse 1 = .ok (.iload_n 1, 1) := by decide +kernel
theorem dX6_refuse_10 : decode cX6_refuse 10 = .ok (.iconst 0, 1) := by decide +kernel
theorem dX6_refuse_11 : decode cX6_refuse 11 = .ok (.ireturn, 1) := by decide +kernel
theorem dX6_refuse_2 : decode cX6_refuse 2 = .ok (.putfield 30, 3) := by decide +kernel
theorem dX6_refuse_5 : decode cX6_refuse 5 = .ok (.aload_n 0, 1) := by decide +kernel
theorem dX6_refuse_6 : decode cX6_refuse 6 = .ok (.iload_n 2, 1) := by decide +kernel
theorem dX6_refuse_7 : decode cX6_refuse 7 = .ok (.putfield 33, 3) := by decide +kernel
theorem dX6_skipBlanks_0 : decode cX6_skipBlanks 0 = .ok (.aload_n 0, 1) := by decide +kernel
theorem dX6_skipBlanks_1 : decode cX6_skipBlanks 1 = .ok (.getfield 26, 3) := by decide +kernel
theorem dX6_skipBlanks_12 : decode cX6_skipBlanks 12 = .ok (.invokevirtual 42, 3) := by decide +kernel
theorem dX6_skipBlanks_15 : decode cX6_skipBlanks 15 = .ok (.if_icmp .ge 33, 3) := by decide +kernel
theorem dX6_skipBlanks_18 : decode cX6_skipBlanks 18 = .ok (.aload_n 0, 1) := by decide +kernel
theorem dX6_skipBlanks_19 : decode cX6_skipBlanks 19 = .ok (.getfield 9, 3) := by decide +kernel
theorem dX6_skipBlanks_22 : decode cX6_skipBlanks 22 = .ok (.iload_n 2, 1) := by decide +kernel
theorem dX6_skipBlanks_23 : decode cX6_skipBlanks 23 = .ok (.invokevirtual 150, 3) := by decide +kernel
theorem dX6_skipBlanks_26 : decode cX6_skipBlanks 26 = .ok (.invokestatic 189, 3) := by decide +kernel
theorem dX6_skipBlanks_29 : decode cX6_skipBlanks 29 = .ok (.ifCond .eq 19, 3) := by decide +kernel
theorem dX6_skipBlanks_32 : decode cX6_skipBlanks 32 = .ok (.aload_n 0, 1) := by decide +kernel
theorem dX6_skipBlanks_33 : decode cX6_skipBlanks 33 = .ok (.dup, 1) := by decide +kernel
theorem dX6_skipBlanks_34 : decode cX6_skipBlanks 34 = .ok (.getfield 26, 3) := by decide +kernel
theorem dX6_skipBlanks_37 : decode cX6_skipBlanks 37 = .ok (.iconst 1, 1) := by decide +kernel
theorem dX6_skipBlanks_38 : decode cX6_skipBlanks 38 = .ok (.iadd, 1) := by decide +kernel
theorem dX6_skipBlanks_39 : decode cX6_skipBlanks 39 = .ok (.putfield 26, 3) := by decide +kernel
theorem dX6_skipBlanks_4 : decode cX6_skipBlanks 4 = .ok (.istore_n 1, 1) := by decide +kernel
theorem dX6_skipBlanks_42 : decode cX6_skipBlanks 42 = .ok (.iinc 2 1, 3) := by decide +kernel
theorem dX6_skipBlanks_45 : decode cX6_skipBlanks 45 = .ok (.goto (-38), 3) := by decide +kernel
theorem dX6_skipBlanks_48 : decode cX6_skipBlanks 48 = .ok (.return_, 1) := by decide +kernel
theorem dX6_skipBlanks_5 : decode cX6_skipBlanks 5 = .ok (.iload_n 1, 1) := by decide +kernel
theorem dX6_skipBlanks_6 : decode cX6_skipBlanks 6 = .ok (.istore_n 2, 1) := by decide +kernel
theorem dX6_skipBlanks_7 : decode cX6_skipBlanks 7 = .ok (.iload_n 2, 1) := by decide +kernel
theorem dX6_skipBlanks_8 : decode cX6_skipBlanks 8 = .ok (.aload_n 0, 1) := by decide +kernel
theorem dX6_skipBlanks_9 : decode cX6_skipBlanks 9 = .ok (.getfield 9, 3) := by decide +kernel
theorem dX6_takeClose_0 : decode cX6_takeClose 0 = .ok (.aload_n 0, 1) := by decide +kernel
theorem dX6_takeClose_1 : decode cX6_takeClose 1 = .ok (.invokevirtual 39, 3) := by decide +kernel
theorem dX6_takeClose_12 : decode cX6_takeClose 12 = .ok (.invokevirtual 150, 3) := by decide +kernel
theorem dX6_takeClose_15 : decode cX6_takeClose 15 = .ok (.bipush 59, 2) := by decide +kernel
theorem dX6_takeClose_17 : decode cX6_takeClose 17 = .ok (.if_icmp .eq 13, 3) := by decide +kernel
theorem dX6_takeClose_20 : decode cX6_takeClose 20 = .ok (.aload_n 0, 1) := by decide +kernel
theorem dX6_takeClose_21 : decode cX6_takeClose 21 = .ok (.iconst 1, 1) := by decide +kernel
theorem dX6_takeClose_22 : decode cX6_takeClose 22 = .ok (.aload_n 0, 1) := by decide +kernel
theorem dX6_takeClose_23 : decode cX6_takeClose 23 = .ok (.getfield 26, 3) := by decide +kernel
theorem dX6_takeClose_26 : decode cX6_takeClose 26 = .ok (.invokevirtual 48, 3) := by decide +kernel
theorem dX6_takeClose_29 : decode cX6_takeClose 29 = .ok (.ireturn, 1) := by decide +kernel
theorem dX6_takeClose_30 : decode cX6_takeClose 30 = .ok (.aload_n 0, 1) := by decide +kernel
theorem dX6_takeClose_31 : decode cX6_takeClose 31 = .ok (.dup, 1) := by decide +kernel
theorem dX6_takeClose_32 : decode cX6_takeClose 32 = .ok (.getfield 26, 3) := by decide +kernel
theorem dX6_takeClose_35 : decode cX6_takeClose 35 = .ok (.iconst 1, 1) := by decide +kernel
theorem dX6_takeClose_36 : decode cX6_takeClose 36 = .ok (.iadd, 1) := by decide +kernel
theorem dX6_takeClose_37 : decode cX6_takeClose 37 = .ok (.putfield 26, 3) := by decide +kernel
theorem dX6_takeClose_4 : decode cX6_takeClose 4 = .ok (.aload_n 0, 1) := by decide +kernel
theorem dX6_takeClose_40 : decode cX6_takeClose 40 = .ok (.iconst 1, 1) := by decide +kernel
theorem dX6_takeClose_41 : decode cX6_takeClose 41 = .ok (.ireturn, 1) := by decide +kernel
theorem dX6_takeClose_5 : decode cX6_takeClose 5 = .ok (.getfield 9, 3) := by decide +kernel
theorem dX6_takeClose_8 : decode cX6_takeClose 8 = .ok (.aload_n 0, 1) := by decide +kernel
theorem dX6_takeClose_9 : decode cX6_takeClose 9 = .ok (.getfield 26, 3) := by decide +kernel
theorem dX6_takeNumber_0 : decode cX6_takeNumber 0 = .ok (.aload_n 0, 1) := by decide +kernel
theorem dX6_takeNumber_1 : decode cX6_takeNumber 1 = .ok (.getfield 26, 3) := by decide +kernel
theorem dX6_takeNumber_102 : decode cX6_takeNumber 102 = .ok (.aload_n 0, 1) := by decide +kernel
theorem dX6_takeNumber_103 : decode cX6_takeNumber 103 = .ok (.iconst 2, 1) := by decide +kernel
theorem dX6_takeNumber_104 : decode cX6_takeNumber 104 = .ok (.iload_n 3, 1) := by decide +kernel
theorem dX6_takeNumber_105 : decode cX6_takeNumber 105 = .ok (.invokevirtual 48, 3) := by decide +kernel
theorem dX6_takeNumber_108 : decode cX6_takeNumber 108 = .ok (.ireturn, 1) := by decide +kernel
theorem dX6_takeNumber_109 : decode cX6_takeNumber 109 = .ok (.aload_n 2, 1) := by decide +kernel
theorem dX6_takeNumber_11 : decode cX6_takeNumber 11 = .ok (.iload 5, 2) := by decide +kernel
theorem dX6_takeNumber_110 : decode cX6_takeNumber 110 = .ok (.iload 4, 2) := by decide +kernel
theorem dX6_takeNumber_112 : decode cX6_takeNumber 112 = .ok (.invokevirtual 101, 3) := by decide +kernel
theorem dX6_takeNumber_115 : decode cX6_takeNumber 115 = .ok (.ifnull 10, 3) := by decide +kernel
theorem dX6_takeNumber_118 : decode cX6_takeNumber 118 = .ok (.aload_n 0, 1) := by decide +kernel
theorem dX6_takeNumber_119 : decode cX6_takeNumber 119 = .ok (.iconst 3, 1) := by decide +kernel
theorem dX6_takeNumber_120 : decode cX6_takeNumber 120 = .ok (.iload_n 3, 1) := by decide +kernel
theorem dX6_takeNumber_121 : decode cX6_takeNumber 121 = .ok (.invokevirtual 48, 3) := by decide +kernel
theorem dX6_takeNumber_124 : decode cX6_takeNumber 124 = .ok (.ireturn, 1) := by decide +kernel
theorem dX6_takeNumber_125 : decode cX6_takeNumber 125 = .ok (.aload_n 1, 1) := by decide +kernel
theorem dX6_takeNumber_126 : decode cX6_takeNumber 126 = .ok (.iload 4, 2) := by decide +kernel
theorem dX6_takeNumber_128 : decode cX6_takeNumber 128 = .ok (.putfield 105, 3) := by decide +kernel
theorem dX6_takeNumber_13 : decode cX6_takeNumber 13 = .ok (.iconst 2, 1) := by decide +kernel
theorem dX6_takeNumber_131 : decode cX6_takeNumber 131 = .ok (.aload_n 0, 1) := by decide +kernel
theorem dX6_takeNumber_132 : decode cX6_takeNumber 132 = .ok (.aload_n 0, 1) := by decide +kernel
theorem dX6_takeNumber_133 : decode cX6_takeNumber 133 = .ok (.getfield 26, 3) := by decide +kernel
theorem dX6_takeNumber_136 : decode cX6_takeNumber 136 = .ok (.invokevirtual 108, 3) := by decide +kernel
theorem dX6_takeNumber_139 : decode cX6_takeNumber 139 = .ok (.ifCond .eq 15, 3) := by decide +kernel
theorem dX6_takeNumber_14 : decode cX6_takeNumber 14 = .ok (.if_icmp .ge 46, 3) := by decide +kernel
theorem dX6_takeNumber_142 : decode cX6_takeNumber 142 = .ok (.aload_n 0, 1) := by decide +kernel
theorem dX6_takeNumber_143 : decode cX6_takeNumber 143 = .ok (.iconst 1, 1) := by decide +kernel
theorem dX6_takeNumber_144 : decode cX6_takeNumber 144 = .ok (.aload_n 0, 1) := by decide +kernel
theorem dX6_takeNumber_145 : decode cX6_takeNumber 145 = .ok (.getfield 26, 3) := by decide +kernel
theorem dX6_takeNumber_148 : decode cX6_takeNumber 148 = .ok (.invokevirtual 48, 3) := by decide +kernel
theorem dX6_takeNumber_151 : decode cX6_takeNumber 151 = .ok (.ifCond .eq 7, 3) := by decide +kernel
theorem dX6_takeNumber_154 : decode cX6_takeNumber 154 = .ok (.iconst 1, 1) := by decide +kernel
theorem dX6_takeNumber_155 : decode cX6_takeNumber 155 = .ok (.goto 4, 3) := by decide +kernel
theorem dX6_takeNumber_158 : decode cX6_takeNumber 158 = .ok (.iconst 0, 1) := by decide +kernel
theorem dX6_takeNumber_159 : decode cX6_takeNumber 159 = .ok (.ireturn, 1) := by decide +kernel
theorem dX6_takeNumber_17 : decode cX6_takeNumber 17 = .ok (.aload_n 0, 1) := by decide +kernel
theorem dX6_takeNumber_18 : decode cX6_takeNumber 18 = .ok (.aload_n 0, 1) := by decide +kernel
theorem dX6_takeNumber_19 : decode cX6_takeNumber 19 = .ok (.getfield 26, 3) := by decide +kernel
theorem dX6_takeNumber_22 : decode cX6_takeNumber 22 = .ok (.invokevirtual 93, 3) := by decide +kernel
theorem dX6_takeNumber_25 : decode cX6_takeNumber 25 = .ok (.ifCond .eq 35, 3) := by decide +kernel
theorem dX6_takeNumber_28 : decode cX6_takeNumber 28 = .ok (.iload 4, 2) := by decide +kernel
theorem dX6_takeNumber_30 : decode cX6_takeNumber 30 = .ok (.bipush 10, 2) := by decide +kernel
theorem dX6_takeNumber_32 : decode cX6_takeNumber 32 = .ok (.imul, 1) := by decide +kernel
theorem dX6_takeNumber_33 : decode cX6_takeNumber 33 = .ok (.aload_n 0, 1) := by decide +kernel
theorem dX6_takeNumber_34 : decode cX6_takeNumber 34 = .ok (.aload_n 0, 1) := by decide +kernel
theorem dX6_takeNumber_35 : decode cX6_takeNumber 35 = .ok (.getfield 26, 3) := by decide +kernel
theorem dX6_takeNumber_38 : decode cX6_takeNumber 38 = .ok (.invokevirtual 97, 3) := by decide +kernel
theorem dX6_takeNumber_4 : decode cX6_takeNumber 4 = .ok (.istore_n 3, 1) := by decide +kernel
theorem dX6_takeNumber_41 : decode cX6_takeNumber 41 = .ok (.iadd, 1) := by decide +kernel
theorem dX6_takeNumber_42 : decode cX6_takeNumber 42 = .ok (.istore 4, 2) := by decide +kernel
theorem dX6_takeNumber_44 : decode cX6_takeNumber 44 = .ok (.aload_n 0, 1) := by decide +kernel
theorem dX6_takeNumber_45 : decode cX6_takeNumber 45 = .ok (.dup, 1) := by decide +kernel
theorem dX6_takeNumber_46 : decode cX6_takeNumber 46 = .ok (.getfield 26, 3) := by decide +kernel
theorem dX6_takeNumber_49 : decode cX6_takeNumber 49 = .ok (.iconst 1, 1) := by decide +kernel
theorem dX6_takeNumber_5 : decode cX6_takeNumber 5 = .ok (.iconst 0, 1) := by decide +kernel
theorem dX6_takeNumber_50 : decode cX6_takeNumber 50 = .ok (.iadd, 1) := by decide +kernel
theorem dX6_takeNumber_51 : decode cX6_takeNumber 51 = .ok (.putfield 26, 3) := by decide +kernel
theorem dX6_takeNumber_54 : decode cX6_takeNumber 54 = .ok (.iinc 5 1, 3) := by decide +kernel
theorem dX6_takeNumber_57 : decode cX6_takeNumber 57 = .ok (.goto (-46), 3) := by decide +kernel
theorem dX6_takeNumber_6 : decode cX6_takeNumber 6 = .ok (.istore 4, 2) := by decide +kernel
theorem dX6_takeNumber_60 : decode cX6_takeNumber 60 = .ok (.aload_n 0, 1) := by decide +kernel
theorem dX6_takeNumber_61 : decode cX6_takeNumber 61 = .ok (.getfield 26, 3) := by decide +kernel
theorem dX6_takeNumber_64 : decode cX6_takeNumber 64 = .ok (.iload_n 3, 1) := by decide +kernel
theorem dX6_takeNumber_65 : decode cX6_takeNumber 65 = .ok (.if_icmp .eq 14, 3) := by decide +kernel
theorem dX6_takeNumber_68 : decode cX6_takeNumber 68 = .ok (.aload_n 0, 1) := by decide +kernel
theorem dX6_takeNumber_69 : decode cX6_takeNumber 69 = .ok (.aload_n 0, 1) := by decide +kernel
theorem dX6_takeNumber_70 : decode cX6_takeNumber 70 = .ok (.getfield 26, 3) := by decide +kernel
theorem dX6_takeNumber_73 : decode cX6_takeNumber 73 = .ok (.invokevirtual 93, 3) := by decide +kernel
theorem dX6_takeNumber_76 : decode cX6_takeNumber 76 = .ok (.ifCond .eq 13, 3) := by decide +kernel
theorem dX6_takeNumber_79 : decode cX6_takeNumber 79 = .ok (.aload_n 0, 1) := by decide +kernel
theorem dX6_takeNumber_8 : decode cX6_takeNumber 8 = .ok (.iconst 0, 1) := by decide +kernel
theorem dX6_takeNumber_80 : decode cX6_takeNumber 80 = .ok (.iconst 1, 1) := by decide +kernel
theorem dX6_takeNumber_81 : decode cX6_takeNumber 81 = .ok (.aload_n 0, 1) := by decide +kernel
theorem dX6_takeNumber_82 : decode cX6_takeNumber 82 = .ok (.getfield 26, 3) := by decide +kernel
theorem dX6_takeNumber_85 : decode cX6_takeNumber 85 = .ok (.invokevirtual 48, 3) := by decide +kernel
theorem dX6_takeNumber_88 : decode cX6_takeNumber 88 = .ok (.ireturn, 1) := by decide +kernel
theorem dX6_takeNumber_89 : decode cX6_takeNumber 89 = .ok (.iload 4, 2) := by decide +kernel
theorem dX6_takeNumber_9 : decode cX6_takeNumber 9 = .ok (.istore 5, 2) := by decide +kernel
theorem dX6_takeNumber_91 : decode cX6_takeNumber 91 = .ok (.iconst 1, 1) := by decide +kernel
theorem dX6_takeNumber_92 : decode cX6_takeNumber 92 = .ok (.if_icmp .lt 10, 3) := by decide +kernel
theorem dX6_takeNumber_95 : decode cX6_takeNumber 95 = .ok (.iload 4, 2) := by decide +kernel
theorem dX6_takeNumber_97 : decode cX6_takeNumber 97 = .ok (.bipush 30, 2) := by decide +kernel
theorem dX6_takeNumber_99 : decode cX6_takeNumber 99 = .ok (.if_icmp .le 10, 3) := by decide +kernel
theorem dX6_takeRec_0 : decode cX6_takeRec 0 = .ok (.aload_n 0, 1) := by decide +kernel
theorem dX6_takeRec_1 : decode cX6_takeRec 1 = .ok (.aload_n 0, 1) := by decide +kernel
theorem dX6_takeRec_101 : decode cX6_takeRec 101 = .ok (.invokevirtual 93, 3) := by decide +kernel
theorem dX6_takeRec_104 : decode cX6_takeRec 104 = .ok (.ifCond .ne 14, 3) := by decide +kernel
theorem dX6_takeRec_107 : decode cX6_takeRec 107 = .ok (.aload_n 0, 1) := by decide +kernel
theorem dX6_takeRec_108 : decode cX6_takeRec 108 = .ok (.aload_n 0, 1) := by decide +kernel
theorem dX6_takeRec_109 : decode cX6_takeRec 109 = .ok (.getfield 26, 3) := by decide +kernel
theorem dX6_takeRec_11 : decode cX6_takeRec 11 = .ok (.aload_n 0, 1) := by decide +kernel
theorem dX6_takeRec_112 : decode cX6_takeRec 112 = .ok (.invokevirtual 108, 3) := by decide +kernel
theorem dX6_takeRec_115 : decode cX6_takeRec 115 = .ok (.ifCond .eq 15, 3) := by decide +kernel
theorem dX6_takeRec_118 : decode cX6_takeRec 118 = .ok (.aload_n 0, 1) := by decide +kernel
theorem dX6_takeRec_119 : decode cX6_takeRec 119 = .ok (.iconst 1, 1) := by decide +kernel
theorem dX6_takeRec_12 : decode cX6_takeRec 12 = .ok (.iconst 1, 1) := by decide +kernel
theorem dX6_takeRec_120 : decode cX6_takeRec 120 = .ok (.aload_n 0, 1) := by decide +kernel
theorem dX6_takeRec_121 : decode cX6_takeRec 121 = .ok (.getfield 26, 3) := by decide +kernel
theorem dX6_takeRec_124 : decode cX6_takeRec 124 = .ok (.invokevirtual 48, 3) := by decide +kernel
theorem dX6_takeRec_127 : decode cX6_takeRec 127 = .ok (.ifCond .eq 7, 3) := by decide +kernel
theorem dX6_takeRec_13 : decode cX6_takeRec 13 = .ok (.aload_n 0, 1) := by decide +kernel
theorem dX6_takeRec_130 : decode cX6_takeRec 130 = .ok (.iconst 1, 1) := by decide +kernel
theorem dX6_takeRec_131 : decode cX6_takeRec 131 = .ok (.goto 4, 3) := by decide +kernel
theorem dX6_takeRec_134 : decode cX6_takeRec 134 = .ok (.iconst 0, 1) := by decide +kernel
theorem dX6_takeRec_135 : decode cX6_takeRec 135 = .ok (.ireturn, 1) := by decide +kernel
theorem dX6_takeRec_14 : decode cX6_takeRec 14 = .ok (.getfield 26, 3) := by decide +kernel
theorem dX6_takeRec_17 : decode cX6_takeRec 17 = .ok (.invokevirtual 48, 3) := by decide +kernel
theorem dX6_takeRec_2 : decode cX6_takeRec 2 = .ok (.getfield 26, 3) := by decide +kernel
theorem dX6_takeRec_20 : decode cX6_takeRec 20 = .ok (.ireturn, 1) := by decide +kernel
theorem dX6_takeRec_21 : decode cX6_takeRec 21 = .ok (.aload_n 0, 1) := by decide +kernel
theorem dX6_takeRec_22 : decode cX6_takeRec 22 = .ok (.invokevirtual 39, 3) := by decide +kernel
theorem dX6_takeRec_25 : decode cX6_takeRec 25 = .ok (.aload_n 0, 1) := by decide +kernel
theorem dX6_takeRec_26 : decode cX6_takeRec 26 = .ok (.aload_n 0, 1) := by decide +kernel
theorem dX6_takeRec_27 : decode cX6_takeRec 27 = .ok (.getfield 26, 3) := by decide +kernel
theorem dX6_takeRec_30 : decode cX6_takeRec 30 = .ok (.invokevirtual 93, 3) := by decide +kernel
theorem dX6_takeRec_33 : decode cX6_takeRec 33 = .ok (.ifCond .ne 13, 3) := by decide +kernel
theorem dX6_takeRec_36 : decode cX6_takeRec 36 = .ok (.aload_n 0, 1) := by decide +kernel
theorem dX6_takeRec_37 : decode cX6_takeRec 37 = .ok (.iconst 1, 1) := by decide +kernel
theorem dX6_takeRec_38 : decode cX6_takeRec 38 = .ok (.aload_n 0, 1) := by decide +kernel
theorem dX6_takeRec_39 : decode cX6_takeRec 39 = .ok (.getfield 26, 3) := by decide +kernel
theorem dX6_takeRec_42 : decode cX6_takeRec 42 = .ok (.invokevirtual 48, 3) := by decide +kernel
theorem dX6_takeRec_45 : decode cX6_takeRec 45 = .ok (.ireturn, 1) := by decide +kernel
theorem dX6_takeRec_46 : decode cX6_takeRec 46 = .ok (.aload_n 0, 1) := by decide +kernel
theorem dX6_takeRec_47 : decode cX6_takeRec 47 = .ok (.aload_n 0, 1) := by decide +kernel
theorem dX6_takeRec_48 : decode cX6_takeRec 48 = .ok (.getfield 26, 3) := by decide +kernel
theorem dX6_takeRec_5 : decode cX6_takeRec 5 = .ok (.invokevirtual 93, 3) := by decide +kernel
theorem dX6_takeRec_51 : decode cX6_takeRec 51 = .ok (.invokevirtual 97, 3) := by decide +kernel
theorem dX6_takeRec_54 : decode cX6_takeRec 54 = .ok (.istore_n 3, 1) := by decide +kernel
theorem dX6_takeRec_55 : decode cX6_takeRec 55 = .ok (.iload_n 3, 1) := by decide +kernel
theorem dX6_takeRec_56 : decode cX6_takeRec 56 = .ok (.iload_n 2, 1) := by decide +kernel
theorem dX6_takeRec_57 : decode cX6_takeRec 57 = .ok (.if_icmp .ge 14, 3) := by decide +kernel
theorem dX6_takeRec_60 : decode cX6_takeRec 60 = .ok (.aload_n 0, 1) := by decide +kernel
theorem dX6_takeRec_61 : decode cX6_takeRec 61 = .ok (.getfield 15, 3) := by decide +kernel
theorem dX6_takeRec_64 : decode cX6_takeRec 64 = .ok (.iload_n 3, 1) := by decide +kernel
theorem dX6_takeRec_65 : decode cX6_takeRec 65 = .ok (.invokestatic 138, 3) := by decide +kernel
theorem dX6_takeRec_68 : decode cX6_takeRec 68 = .ok (.ifnonnull 13, 3) := by decide +kernel
theorem dX6_takeRec_71 : decode cX6_takeRec 71 = .ok (.aload_n 0, 1) := by decide +kernel
theorem dX6_takeRec_72 : decode cX6_takeRec 72 = .ok (.iconst 2, 1) := by decide +kernel
theorem dX6_takeRec_73 : decode cX6_takeRec 73 = .ok (.aload_n 0, 1) := by decide +kernel
theorem dX6_takeRec_74 : decode cX6_takeRec 74 = .ok (.getfield 26, 3) := by decide +kernel
theorem dX6_takeRec_77 : decode cX6_takeRec 77 = .ok (.invokevirtual 48, 3) := by decide +kernel
theorem dX6_takeRec_8 : decode cX6_takeRec 8 = .ok (.ifCond .eq 13, 3) := by decide +kernel
theorem dX6_takeRec_80 : decode cX6_takeRec 80 = .ok (.ireturn, 1) := by decide +kernel
theorem dX6_takeRec_81 : decode cX6_takeRec 81 = .ok (.aload_n 1, 1) := by decide +kernel
theorem dX6_takeRec_82 : decode cX6_takeRec 82 = .ok (.iload_n 3, 1) := by decide +kernel
theorem dX6_takeRec_83 : decode cX6_takeRec 83 = .ok (.putfield 142, 3) := by decide +kernel
theorem dX6_takeRec_86 : decode cX6_takeRec 86 = .ok (.aload_n 0, 1) := by decide +kernel
theorem dX6_takeRec_87 : decode cX6_takeRec 87 = .ok (.dup, 1) := by decide +kernel
theorem dX6_takeRec_88 : decode cX6_takeRec 88 = .ok (.getfield 26, 3) := by decide +kernel
theorem dX6_takeRec_91 : decode cX6_takeRec 91 = .ok (.iconst 1, 1) := by decide +kernel
theorem dX6_takeRec_92 : decode cX6_takeRec 92 = .ok (.iadd, 1) := by decide +kernel
theorem dX6_takeRec_93 : decode cX6_takeRec 93 = .ok (.putfield 26, 3) := by decide +kernel
theorem dX6_takeRec_96 : decode cX6_takeRec 96 = .ok (.aload_n 0, 1) := by decide +kernel
theorem dX6_takeRec_97 : decode cX6_takeRec 97 = .ok (.aload_n 0, 1) := by decide +kernel
theorem dX6_takeRec_98 : decode cX6_takeRec 98 = .ok (.getfield 26, 3) := by decide +kernel
theorem dX6_takeValue_0 : decode cX6_takeValue 0 = .ok (.aload_n 0, 1) := by decide +kernel
theorem dX6_takeValue_1 : decode cX6_takeValue 1 = .ok (.getfield 26, 3) := by decide +kernel
theorem dX6_takeValue_10 : decode cX6_takeValue 10 = .ok (.getfield 26, 3) := by decide +kernel
theorem dX6_takeValue_102 : decode cX6_takeValue 102 = .ok (.goto (-49), 3) := by decide +kernel
theorem dX6_takeValue_105 : decode cX6_takeValue 105 = .ok (.aload_n 0, 1) := by decide +kernel
theorem dX6_takeValue_106 : decode cX6_takeValue 106 = .ok (.getfield 26, 3) := by decide +kernel
theorem dX6_takeValue_109 : decode cX6_takeValue 109 = .ok (.iload 4, 2) := by decide +kernel
theorem dX6_takeValue_111 : decode cX6_takeValue 111 = .ok (.if_icmp .eq 14, 3) := by decide +kernel
theorem dX6_takeValue_114 : decode cX6_takeValue 114 = .ok (.aload_n 0, 1) := by decide +kernel
theorem dX6_takeValue_115 : decode cX6_takeValue 115 = .ok (.aload_n 0, 1) := by decide +kernel
theorem dX6_takeValue_116 : decode cX6_takeValue 116 = .ok (.getfield 26, 3) := by decide +kernel
theorem dX6_takeValue_119 : decode cX6_takeValue 119 = .ok (.invokevirtual 93, 3) := by decide +kernel
theorem dX6_takeValue_122 : decode cX6_takeValue 122 = .ok (.ifCond .eq 13, 3) := by decide +kernel
theorem dX6_takeValue_125 : decode cX6_takeValue 125 = .ok (.aload_n 0, 1) := by decide +kernel
theorem dX6_takeValue_126 : decode cX6_takeValue 126 = .ok (.iconst 1, 1) := by decide +kernel
theorem dX6_takeValue_127 : decode cX6_takeValue 127 = .ok (.aload_n 0, 1) := by decide +kernel
theorem dX6_takeValue_128 : decode cX6_takeValue 128 = .ok (.getfield 26, 3) := by decide +kernel
theorem dX6_takeValue_13 : decode cX6_takeValue 13 = .ok (.invokevirtual 150, 3) := by decide +kernel
theorem dX6_takeValue_131 : decode cX6_takeValue 131 = .ok (.invokevirtual 48, 3) := by decide +kernel
theorem dX6_takeValue_134 : decode cX6_takeValue 134 = .ok (.ireturn, 1) := by decide +kernel
theorem dX6_takeValue_135 : decode cX6_takeValue 135 = .ok (.lload 5, 2) := by decide +kernel
theorem dX6_takeValue_137 : decode cX6_takeValue 137 = .ok (.lconst 0, 1) := by decide +kernel
theorem dX6_takeValue_138 : decode cX6_takeValue 138 = .ok (.lcmp, 1) := by decide +kernel
theorem dX6_takeValue_139 : decode cX6_takeValue 139 = .ok (.ifCond .ge 16, 3) := by decide +kernel
theorem dX6_takeValue_142 : decode cX6_takeValue 142 = .ok (.iload_n 3, 1) := by decide +kernel
theorem dX6_takeValue_143 : decode cX6_takeValue 143 = .ok (.ifCond .eq 16, 3) := by decide +kernel
theorem dX6_takeValue_146 : decode cX6_takeValue 146 = .ok (.lload 5, 2) := by decide +kernel
theorem dX6_takeValue_148 : decode cX6_takeValue 148 = .ok (.ldc2_w 161, 3) := by decide +kernel
theorem dX6_takeValue_151 : decode cX6_takeValue 151 = .ok (.lcmp, 1) := by decide +kernel
theorem dX6_takeValue_152 : decode cX6_takeValue 152 = .ok (.ifCond .ne 7, 3) := by decide +kernel
theorem dX6_takeValue_155 : decode cX6_takeValue 155 = .ok (.iconst 1, 1) := by decide +kernel
theorem dX6_takeValue_156 : decode cX6_takeValue 156 = .ok (.goto 4, 3) := by decide +kernel
theorem dX6_takeValue_159 : decode cX6_takeValue 159 = .ok (.iconst 0, 1) := by decide +kernel
theorem dX6_takeValue_16 : decode cX6_takeValue 16 = .ok (.bipush 45, 2) := by decide +kernel
theorem dX6_takeValue_160 : decode cX6_takeValue 160 = .ok (.istore 7, 2) := by decide +kernel
theorem dX6_takeValue_162 : decode cX6_takeValue 162 = .ok (.iload_n 3, 1) := by decide +kernel
theorem dX6_takeValue_163 : decode cX6_takeValue 163 = .ok (.ifCond .eq 9, 3) := by decide +kernel
theorem dX6_takeValue_166 : decode cX6_takeValue 166 = .ok (.lload 5, 2) := by decide +kernel
theorem dX6_takeValue_168 : decode cX6_takeValue 168 = .ok (.lneg, 1) := by decide +kernel
theorem dX6_takeValue_169 : decode cX6_takeValue 169 = .ok (.goto 5, 3) := by decide +kernel
theorem dX6_takeValue_172 : decode cX6_takeValue 172 = .ok (.lload 5, 2) := by decide +kernel
theorem dX6_takeValue_174 : decode cX6_takeValue 174 = .ok (.lstore 8, 2) := by decide +kernel
theorem dX6_takeValue_176 : decode cX6_takeValue 176 = .ok (.iload 7, 2) := by decide +kernel
theorem dX6_takeValue_178 : decode cX6_takeValue 178 = .ok (.ifCond .eq 12, 3) := by decide +kernel
theorem dX6_takeValue_18 : decode cX6_takeValue 18 = .ok (.if_icmp .ne 7, 3) := by decide +kernel
theorem dX6_takeValue_181 : decode cX6_takeValue 181 = .ok (.aload_n 1, 1) := by decide +kernel
theorem dX6_takeValue_182 : decode cX6_takeValue 182 = .ok (.lload 8, 2) := by decide +kernel
theorem dX6_takeValue_184 : decode cX6_takeValue 184 = .ok (.invokevirtual 163, 3) := by decide +kernel
theorem dX6_takeValue_187 : decode cX6_takeValue 187 = .ok (.ifCond .ne 10, 3) := by decide +kernel
theorem dX6_takeValue_190 : decode cX6_takeValue 190 = .ok (.aload_n 0, 1) := by decide +kernel
theorem dX6_takeValue_191 : decode cX6_takeValue 191 = .ok (.iconst 2, 1) := by decide +kernel
theorem dX6_takeValue_192 : decode cX6_takeValue 192 = .ok (.iload_n 2, 1) := by decide +kernel
theorem dX6_takeValue_193 : decode cX6_takeValue 193 = .ok (.invokevirtual 48, 3) := by decide +kernel
theorem dX6_takeValue_196 : decode cX6_takeValue 196 = .ok (.ireturn, 1) := by decide +kernel
theorem dX6_takeValue_197 : decode cX6_takeValue 197 = .ok (.aload_n 1, 1) := by decide +kernel
theorem dX6_takeValue_198 : decode cX6_takeValue 198 = .ok (.lload 8, 2) := by decide +kernel
theorem dX6_takeValue_200 : decode cX6_takeValue 200 = .ok (.putfield 167, 3) := by decide +kernel
theorem dX6_takeValue_203 : decode cX6_takeValue 203 = .ok (.iconst 1, 1) := by decide +kernel
theorem dX6_takeValue_204 : decode cX6_takeValue 204 = .ok (.ireturn, 1) := by decide +kernel
theorem dX6_takeValue_21 : decode cX6_takeValue 21 = .ok (.iconst 1, 1) := by decide +kernel
theorem dX6_takeValue_22 : decode cX6_takeValue 22 = .ok (.goto 4, 3) := by decide +kernel
theorem dX6_takeValue_25 : decode cX6_takeValue 25 = .ok (.iconst 0, 1) := by decide +kernel
theorem dX6_takeValue_26 : decode cX6_takeValue 26 = .ok (.istore_n 3, 1) := by decide +kernel
theorem dX6_takeValue_27 : decode cX6_takeValue 27 = .ok (.iload_n 3, 1) := by decide +kernel
theorem dX6_takeValue_28 : decode cX6_takeValue 28 = .ok (.ifCond .eq 13, 3) := by decide +kernel
theorem dX6_takeValue_31 : decode cX6_takeValue 31 = .ok (.aload_n 0, 1) := by decide +kernel
theorem dX6_takeValue_32 : decode cX6_takeValue 32 = .ok (.dup, 1) := by decide +kernel
theorem dX6_takeValue_33 : decode cX6_takeValue 33 = .ok (.getfield 26, 3) := by decide +kernel
theorem dX6_takeValue_36 : decode cX6_takeValue 36 = .ok (.iconst 1, 1) := by decide +kernel
theorem dX6_takeValue_37 : decode cX6_takeValue 37 = .ok (.iadd, 1) := by decide +kernel
theorem dX6_takeValue_38 : decode cX6_takeValue 38 = .ok (.putfield 26, 3) := by decide +kernel
theorem dX6_takeValue_4 : decode cX6_takeValue 4 = .ok (.istore_n 2, 1) := by decide +kernel
theorem dX6_takeValue_41 : decode cX6_takeValue 41 = .ok (.aload_n 0, 1) := by decide +kernel
theorem dX6_takeValue_42 : decode cX6_takeValue 42 = .ok (.getfield 26, 3) := by decide +kernel
theorem dX6_takeValue_45 : decode cX6_takeValue 45 = .ok (.istore 4, 2) := by decide +kernel
theorem dX6_takeValue_47 : decode cX6_takeValue 47 = .ok (.lconst 0, 1) := by decide +kernel
theorem dX6_takeValue_48 : decode cX6_takeValue 48 = .ok (.lstore 5, 2) := by decide +kernel
theorem dX6_takeValue_5 : decode cX6_takeValue 5 = .ok (.aload_n 0, 1) := by decide +kernel
theorem dX6_takeValue_50 : decode cX6_takeValue 50 = .ok (.iconst 0, 1) := by decide +kernel
theorem dX6_takeValue_51 : decode cX6_takeValue 51 = .ok (.istore 7, 2) := by decide +kernel
theorem dX6_takeValue_53 : decode cX6_takeValue 53 = .ok (.iload 7, 2) := by decide +kernel
theorem dX6_takeValue_55 : decode cX6_takeValue 55 = .ok (.bipush 19, 2) := by decide +kernel
theorem dX6_takeValue_57 : decode cX6_takeValue 57 = .ok (.if_icmp .ge 48, 3) := by decide +kernel
theorem dX6_takeValue_6 : decode cX6_takeValue 6 = .ok (.getfield 9, 3) := by decide +kernel
theorem dX6_takeValue_60 : decode cX6_takeValue 60 = .ok (.aload_n 0, 1) := by decide +kernel
theorem dX6_takeValue_61 : decode cX6_takeValue 61 = .ok (.aload_n 0, 1) := by decide +kernel
theorem dX6_takeValue_62 : decode cX6_takeValue 62 = .ok (.getfield 26, 3) := by decide +kernel
theorem dX6_takeValue_65 : decode cX6_takeValue 65 = .ok (.invokevirtual 93, 3) := by decide +kernel
theorem dX6_takeValue_68 : decode cX6_takeValue 68 = .ok (.ifCond .eq 37, 3) := by decide +kernel
theorem dX6_takeValue_71 : decode cX6_takeValue 71 = .ok (.lload 5, 2) := by decide +kernel
theorem dX6_takeValue_73 : decode cX6_takeValue 73 = .ok (.ldc2_w 159, 3) := by decide +kernel
theorem dX6_takeValue_76 : decode cX6_takeValue 76 = .ok (.lmul, 1) := by decide +kernel
theorem dX6_takeValue_77 : decode cX6_takeValue 77 = .ok (.aload_n 0, 1) := by decide +kernel
theorem dX6_takeValue_78 : decode cX6_takeValue 78 = .ok (.aload_n 0, 1) := by decide +kernel
theorem dX6_takeValue_79 : decode cX6_takeValue 79 = .ok (.getfield 26, 3) := by decide +kernel
theorem dX6_takeValue_82 : decode cX6_takeValue 82 = .ok (.invokevirtual 97, 3) := by decide +kernel
theorem dX6_takeValue_85 : decode cX6_takeValue 85 = .ok (.i2l, 1) := by decide +kernel
theorem dX6_takeValue_86 : decode cX6_takeValue 86 = .ok (.ladd, 1) := by decide +kernel
theorem dX6_takeValue_87 : decode cX6_takeValue 87 = .ok (.lstore 5, 2) := by decide +kernel
theorem dX6_takeValue_89 : decode cX6_takeValue 89 = .ok (.aload_n 0, 1) := by decide +kernel
theorem dX6_takeValue_9 : decode cX6_takeValue 9 = .ok (.aload_n 0, 1) := by decide +kernel
theorem dX6_takeValue_90 : decode cX6_takeValue 90 = .ok (.dup, 1) := by decide +kernel
theorem dX6_takeValue_91 : decode cX6_takeValue 91 = .ok (.getfield 26, 3) := by decide +kernel
theorem dX6_takeValue_94 : decode cX6_takeValue 94 = .ok (.iconst 1, 1) := by decide +kernel
theorem dX6_takeValue_95 : decode cX6_takeValue 95 = .ok (.iadd, 1) := by decide +kernel
theorem dX6_takeValue_96 : decode cX6_takeValue 96 = .ok (.putfield 26, 3) := by decide +kernel
theorem dX6_takeValue_99 : decode cX6_takeValue 99 = .ok (.iinc 7 1, 3) := by decide +kernel
noncomputable def fX0_init (h0 : Nat) (st : CS) : Option (CS) := gd (qk st h0 = 3) (nam (wI st h0 0 0) (fun st_2 => nam (wI st_2 h0 1 0) (fun st_3 => nam (wI st_3 h0 2 0) (fun st_4 => nam (wI st_4 h0 3 (-1)) (fun st_5 => nam (wP st_5 h0 4 (some 0)) (fun st_6 => nam (wP st_6 h0 5 (some 0)) (fun st_7 => nam (wJ st_7 h0 6 0) (fun st_8 => some st_8))))))))
set_option maxHeartbeats 1000000 in
theorem mo_X0_init (h0 : Nat) (st : CS) (st' : CS) (hf : fX0_init h0 st = some st') : Ke st st' := by
  unfold fX0_init at hf
  have hm : Ke st st := Ke.rf
  obtain ⟨hk_1, hf⟩ := gd_some hf
  obtain ⟨st_2, est_2, hf⟩ := nam_some hf
  have hm := hm.wI est_2
  obtain ⟨st_3, est_3, hf⟩ := nam_some hf
  have hm := hm.wI est_3
  obtain ⟨st_4, est_4, hf⟩ := nam_some hf
  have hm := hm.wI est_4
  obtain ⟨st_5, est_5, hf⟩ := nam_some hf
  have hm := hm.wI est_5
  obtain ⟨st_6, est_6, hf⟩ := nam_some hf
  have hm := hm.wP est_6
  obtain ⟨st_7, est_7, hf⟩ := nam_some hf
  have hm := hm.wP est_7
  obtain ⟨st_8, est_8, hf⟩ := nam_some hf
  have hm := hm.wJ est_8
  have e2 := Option.some.inj hf
  exact e2 ▸ hm
def wq_X0_init : List Cond := .code yX0_init cX0_init 1 none :: (([.methodLink RX0 3 objectInit, .instanceMethod objectInit, .code objectInit ⟨#[0xb1]⟩ 1 none, .fieldLink RX0 9 "RecordBench$Field" "number" "I", .fieldLink RX0 15 "RecordBench$Field" "kind" "I", .fieldLink RX0 18 "RecordBench$Field" "group" "I", .fieldLink RX0 21 "RecordBench$Field" "rec" "I", .fieldLink RX0 26 "RecordBench$Field" "name" "Ljava/lang/String;", .fieldLink RX0 30 "RecordBench$Field" "text" "Ljava/lang/String;", .fieldLink RX0 33 "RecordBench$Field" "value" "J"] : List Cond) ++ wsX00)
set_option maxHeartbeats 4000000 in
set_option maxRecDepth 100000 in
theorem c_X0_init (l : Launch) (dC : Nat → ClassId) (dI : Nat → Nat → Nat) (ka ad : Nat → Nat) (ct : Nat → ClassId) (h0 : Nat) (st st' : CS) (hf : fX0_init h0 st = some st') (sz : Nat) : Met l yX0_init wq_X0_init ({ frames := 1, cells := 0, slots := 0, locals := 16 }) (va_Pc [.ref (ad h0)] (PrC (dC, dI) ct ka ad st sz)) (va_Qv (fun (_ : Unit) => True) (fun _ => CB (dC, dI) ct ka ad st' (aC ad st sz)) (aC ad st sz)) 0 0 (aC ad st sz) := by
  refine Met.ofW (cc := cX0_init) (maxL := 1) (ret := none) (by decide) rfl ?_
  intro p e s m args below meth c s₁ B hml hv
  obtain ⟨rfl, hsz, hw0, hK, hN, hZ, hC, hR, hL, hw1, hw2⟩ := hv
  have hx := B.exec
  have hb := B.bytes
  have hr := B.returns
  have hts := atoms_spec (ws := wq_X0_init) B.pre
  have hown : s.vm.findClass RX0 = some m.cls := findClass_of_methodNamed B.named
  have iRX0 : ∀ w ∈ u_ws RX0 TX0 7, w ∈ wq_X0_init := fun w h => List.mem_cons_of_mem _ (List.mem_append_right _ h)
  subst hsz
  have hp : Cp (dC, dI) ka ad ct (aC ad st s.heap.size) s.heap st s.heap [] := ⟨fun i a b => ⟨hw0 i a b, Or.inl ⟨i, a, b, rfl⟩⟩, va_S.rf, hw1, hw2⟩
  generalize hAe : aC ad st s.heap.size = A at hp hZ hC ⊢
  have hA : ∀ q : Nat, s.heap.size ≤ q → A q := fun q h => by rw [← hAe]; exact Or.inr h
  have hl := lv_entry ([.ref (ad h0)]) (n := 1) (Nat.le_of_ble_eq_true rfl)
  rw [lg_entry_eq]
  generalize (lg_sl ([.ref (ad h0)]) ++ List.replicate (1 - (lg_sl ([.ref (ad h0)])).length) Slot.unset).toArray = ls at hl ⊢
  have hl : lv_has ls 1 [(0, .ref (ad h0))] := hl
  unfold fX0_init at hf
  refine lv_aload_n hx hb dX0_init_0 rfl (lv_at hl 0 rfl) ?_
  refine W.objInit hx hb hown (hts (.methodLink RX0 3 objectInit) (by decide +kernel)) (hts (.instanceMethod objectInit) (by decide +kernel)) (hts (.code objectInit ⟨#[0xb1]⟩ 1 none) (by decide +kernel)) rfl (by rw [hml]; exact hl.1) rfl dX0_init_1 (Nat.le_of_ble_eq_true rfl) (Nat.le_of_ble_eq_true rfl) ?_
  refine W.eq (g2 := F0 m 4 ls []) rfl ?_
  refine lv_aload_n hx hb dX0_init_4 rfl (lv_at hl 0 rfl) ?_
  refine lv_iconst (v := 0) hx hb dX0_init_5 (by decide) ?_
  obtain ⟨hk_1, hf⟩ := gd_some hf
  refine q_pi (ci := 2) (C := RX0) (T := TX0) (N := 7) (k := 0) (v := 0) (ty := .int) hx hb hts iRX0 tyX0 tyX0_ok nmX0 hown hK hp hk_1 (by decide) rfl rfl (by decide) rfl (Or.inl (hts (.fieldLink RX0 9 "RecordBench$Field" "number" "I") (by decide +kernel))) (fun _ h9 => h9) rfl (by decide +kernel) rfl rfl dX0_init_6 (fun H locs hp => ?_)
  obtain ⟨st_2, est_2, hf⟩ := nam_some hf
  rw [← est_2] at hp
  have hk_1 : qk st_2 h0 = 3 := by rw [est_2]; exact hk_1
  refine lv_aload_n hx hb dX0_init_9 rfl (lv_at hl 0 rfl) ?_
  refine lv_iconst (v := 0) hx hb dX0_init_10 (by decide) ?_
  refine q_pi (ci := 2) (C := RX0) (T := TX0) (N := 7) (k := 1) (v := 0) (ty := .int) hx hb hts iRX0 tyX0 tyX0_ok nmX0 hown hK hp hk_1 (by decide) rfl rfl (by decide) rfl (Or.inl (hts (.fieldLink RX0 15 "RecordBench$Field" "kind" "I") (by decide +kernel))) (fun _ h9 => h9) rfl (by decide +kernel) rfl rfl dX0_init_11 (fun H locs hp => ?_)
  obtain ⟨st_3, est_3, hf⟩ := nam_some hf
  rw [← est_3] at hp
  have hk_1 : qk st_3 h0 = 3 := by rw [est_3]; exact hk_1
  refine lv_aload_n hx hb dX0_init_14 rfl (lv_at hl 0 rfl) ?_
  refine lv_iconst (v := 0) hx hb dX0_init_15 (by decide) ?_
  refine q_pi (ci := 2) (C := RX0) (T := TX0) (N := 7) (k := 2) (v := 0) (ty := .int) hx hb hts iRX0 tyX0 tyX0_ok nmX0 hown hK hp hk_1 (by decide) rfl rfl (by decide) rfl (Or.inl (hts (.fieldLink RX0 18 "RecordBench$Field" "group" "I") (by decide +kernel))) (fun _ h9 => h9) rfl (by decide +kernel) rfl rfl dX0_init_16 (fun H locs hp => ?_)
  obtain ⟨st_4, est_4, hf⟩ := nam_some hf
  rw [← est_4] at hp
  have hk_1 : qk st_4 h0 = 3 := by rw [est_4]; exact hk_1
  refine lv_aload_n hx hb dX0_init_19 rfl (lv_at hl 0 rfl) ?_
  refine lv_iconst (v := (-1)) hx hb dX0_init_20 (by decide) ?_
  refine q_pi (ci := 2) (C := RX0) (T := TX0) (N := 7) (k := 3) (v := (-1)) (ty := .int) hx hb hts iRX0 tyX0 tyX0_ok nmX0 hown hK hp hk_1 (by decide) rfl rfl (by decide) rfl (Or.inl (hts (.fieldLink RX0 21 "RecordBench$Field" "rec" "I") (by decide +kernel))) (fun _ h9 => h9) rfl (by decide +kernel) rfl rfl dX0_init_21 (fun H locs hp => ?_)
  obtain ⟨st_5, est_5, hf⟩ := nam_some hf
  rw [← est_5] at hp
  have hk_1 : qk st_5 h0 = 3 := by rw [est_5]; exact hk_1
  refine lv_aload_n hx hb dX0_init_24 rfl (lv_at hl 0 rfl) ?_
  refine q_ldc (i := 0) hx hb hown (hR (RX0, 24, "", 0) (by decide +kernel)) hp (by decide) dX0_init_25 ?_
  refine q_pp (ci := 2) (C := RX0) (T := TX0) (N := 7) (k := 4) (v := (some 0)) (ty := (.object "java/lang/String")) hx hb hts iRX0 tyX0 tyX0_ok nmX0 hown hK hp hk_1 (by decide) rfl rfl (by decide) rfl (Or.inl (hts (.fieldLink RX0 26 "RecordBench$Field" "name" "Ljava/lang/String;") (by decide +kernel))) (fun _ h9 => h9) rfl (by decide +kernel) (rf_nar rfl _) dX0_init_27 (fun H locs hp => ?_)
  obtain ⟨st_6, est_6, hf⟩ := nam_some hf
  rw [← est_6] at hp
  have hk_1 : qk st_6 h0 = 3 := by rw [est_6]; exact hk_1
  refine lv_aload_n hx hb dX0_init_30 rfl (lv_at hl 0 rfl) ?_
  refine q_ldc (i := 0) hx hb hown (hR (RX0, 24, "", 0) (by decide +kernel)) hp (by decide) dX0_init_31 ?_
  refine q_pp (ci := 2) (C := RX0) (T := TX0) (N := 7) (k := 5) (v := (some 0)) (ty := (.object "java/lang/String")) hx hb hts iRX0 tyX0 tyX0_ok nmX0 hown hK hp hk_1 (by decide) rfl rfl (by decide) rfl (Or.inl (hts (.fieldLink RX0 30 "RecordBench$Field" "text" "Ljava/lang/String;") (by decide +kernel))) (fun _ h9 => h9) rfl (by decide +kernel) (rf_nar rfl _) dX0_init_33 (fun H locs hp => ?_)
  obtain ⟨st_7, est_7, hf⟩ := nam_some hf
  rw [← est_7] at hp
  have hk_1 : qk st_7 h0 = 3 := by rw [est_7]; exact hk_1
  refine lv_aload_n hx hb dX0_init_36 rfl (lv_at hl 0 rfl) ?_
  refine lv_lconst (v := 0) hx hb dX0_init_37 (by decide) ?_
  refine q_pj (ci := 2) (C := RX0) (T := TX0) (N := 7) (k := 6) (v := 0) (ty := .long) hx hb hts iRX0 tyX0 tyX0_ok nmX0 hown hK hp hk_1 (by decide) rfl rfl (by decide) rfl (Or.inl (hts (.fieldLink RX0 33 "RecordBench$Field" "value" "J") (by decide +kernel))) (fun _ h9 => h9) rfl (by decide +kernel) rfl rfl dX0_init_38 (fun H locs hp => ?_)
  obtain ⟨st_8, est_8, hf⟩ := nam_some hf
  rw [← est_8] at hp
  have hk_1 : qk st_8 h0 = 3 := by rw [est_8]; exact hk_1
  have e2 := Option.some.inj hf
  exact W.vret hx hb hr (fun t ht hW => ⟨⟨(), rfl, trivial, Cp.end e2 hp ht⟩, hp.2.1.F ht⟩) hp.2.1.2.2 dX0_init_41
noncomputable def fX1_hasName_2 (h0 : Nat)  : Nat → Option Nat → Int32 → CS → Option (Int32 × CS)
  | 0 => fun _ _ _ => none
  | n + 1 => fun l1 l2 gs => gd (qk gs h0 = 4) (ono (qP gs h0 0) (fun a_2 => gd (qk gs a_2 = 26) (pif ((nI (ql gs a_2)) ≤ l2) (some ((0 : Int32), gs)) (gd (vp_in l2 (ql gs a_2)) (nam (qP gs a_2 l2.toNatClampNeg) (fun v_7 => pif (v_7 = none) (nam (l2 + 1) (fun v_9 => (fX1_hasName_2 h0 n) l1 v_9 gs)) (ono v_7 (fun a_10 => gd (qk gs a_10 = 3) (ono (qP gs a_10 4) (fun a_13 => gd (qk gs a_13 = 1) (bnd (fJ0_equals_9ea2d a_13 l1 gs) (fun r_18 st_16 => pif (r_18 = 0) (nam (l2 + 1) (fun v_20 => (fX1_hasName_2 h0 n) l1 v_20 st_16)) (some ((1 : Int32), st_16))))))))))))))
theorem fX1_hasName_2_z (h0 : Nat)  (l1 : Option Nat) (l2 : Int32) (gs : CS) : fX1_hasName_2 h0 0 l1 l2 gs = none := rfl
theorem fX1_hasName_2_s (h0 : Nat)  (n : Nat) (l1 : Option Nat) (l2 : Int32) (gs : CS) : fX1_hasName_2 h0 (n + 1) l1 l2 gs = gd (qk gs h0 = 4) (ono (qP gs h0 0) (fun a_2 => gd (qk gs a_2 = 26) (pif ((nI (ql gs a_2)) ≤ l2) (some ((0 : Int32), gs)) (gd (vp_in l2 (ql gs a_2)) (nam (qP gs a_2 l2.toNatClampNeg) (fun v_7 => pif (v_7 = none) (nam (l2 + 1) (fun v_9 => (fX1_hasName_2 h0 n) l1 v_9 gs)) (ono v_7 (fun a_10 => gd (qk gs a_10 = 3) (ono (qP gs a_10 4) (fun a_13 => gd (qk gs a_13 = 1) (bnd (fJ0_equals_9ea2d a_13 l1 gs) (fun r_18 st_16 => pif (r_18 = 0) (nam (l2 + 1) (fun v_20 => (fX1_hasName_2 h0 n) l1 v_20 st_16)) (some ((1 : Int32), st_16)))))))))))))) := rfl
set_option maxHeartbeats 1000000 in
theorem mo_X1_hasName_2 (h0 : Nat)   : ∀ (n : Nat) (l1 : Option Nat) (l2 : Int32) (gs : CS) (r : Int32) (st' : CS), fX1_hasName_2 h0 n l1 l2 gs = some (r, st') → Ke gs st' := by
  intro n
  induction n with
  | zero =>
    intro l1 l2 gs r st' hf
    rw [fX1_hasName_2_z] at hf
    cases hf
  | succ n ih =>
    intro l1 l2 gs r st' hf
    rw [fX1_hasName_2_s] at hf
    have hm : Ke gs gs := Ke.rf
    obtain ⟨hk_1, hf⟩ := gd_some hf
    obtain ⟨a_2, ha_3, hf⟩ := ono_some hf
    obtain ⟨hk_4, hf⟩ := gd_some hf
    rcases pif_or hf with ⟨c_5, hf⟩ | ⟨c_5, hf⟩
    · obtain ⟨e1, e2⟩ := pr_some hf
      exact e2 ▸ hm
    · obtain ⟨g_6, hf⟩ := gd_some hf
      obtain ⟨v_7, ev_7, hf⟩ := nam_some hf
      rcases pif_or hf with ⟨c_8, hf⟩ | ⟨c_8, hf⟩
      · obtain ⟨v_9, ev_9, hf⟩ := nam_some hf
        exact hm.tr (ih l1 v_9 gs _ _ hf)
      · obtain ⟨a_10, ha_11, hf⟩ := ono_some hf
        obtain ⟨hk_12, hf⟩ := gd_some hf
        obtain ⟨a_13, ha_14, hf⟩ := ono_some hf
        obtain ⟨hk_15, hf⟩ := gd_some hf
        obtain ⟨r_18, st_16, hc_17, hf⟩ := bnd_some hf
        have hm := hm.tr (mo_J0_equals_9ea2d a_13 l1 _ _ _ hc_17)
        rcases pif_or hf with ⟨c_19, hf⟩ | ⟨c_19, hf⟩
        · obtain ⟨v_20, ev_20, hf⟩ := nam_some hf
          exact hm.tr (ih l1 v_20 st_16 _ _ hf)
        · obtain ⟨e1, e2⟩ := pr_some hf
          exact e2 ▸ hm
noncomputable def fX1_hasName (h0 : Nat) (p0 : Option Nat) (st : CS) : Option (Int32 × CS) := fX1_hasName_2 h0 fuel p0 0 st
set_option maxHeartbeats 1000000 in
theorem mo_X1_hasName (h0 : Nat) (p0 : Option Nat) (st : CS) (r : Int32) (st' : CS) (hf : fX1_hasName h0 p0 st = some (r, st')) : Ke st st' := by
  unfold fX1_hasName at hf
  have hm : Ke st st := Ke.rf
  exact hm.tr (mo_X1_hasName_2 h0 fuel p0 0 st _ _ hf)
def wq_X1_hasName : List Cond := .code yX1_hasName cX1_hasName 4 (some .boolean) :: (([.fieldLink RX1 11 "RecordBench$Make" "fields" "[LRecordBench$Field;", .methodLink RX1 32 yJ0_equals_9ea2d, .instanceMethod yJ0_equals_9ea2d, .selects RJ0 yJ0_equals_9ea2d yJ0_equals_9ea2d, .initialized RJ0, .code yJ0_equals_9ea2d cJ0_equals_9ea2d 3 (some .boolean), .classLink RJ0 10 "java/lang/String", .fieldLink RJ0 38 "java/lang/String" "COMPACT_STRINGS" "Z", .fieldLink RJ0 15 "java/lang/String" "coder" "B", .fieldLink RJ0 9 "java/lang/String" "value" "[B", .methodLink RJ0 541 yJ1_equals_b5fdf, .static yJ1_equals_b5fdf, .initialized RJ1, .code yJ1_equals_b5fdf cJ1_equals_b5fdf 3 (some .boolean)] : List Cond) ++ wsX10 ++ wsX00 ++ wsJ00)
theorem gs_wq_X1_hasName_wsJ00 : GoodIn wq_X1_hasName wsJ00 := fun w h => ⟨List.mem_cons_of_mem _ (List.mem_append_right _ h), (gt_wsJ00 w h).2⟩
set_option maxRecDepth 20000 in
theorem gq_X1_hasName_J0_equals_9ea2d_32 : GoodIn wq_X1_hasName (wsV RX1 32 RJ0 yJ0_equals_9ea2d wq_J0_equals_9ea2d) := goodIn_app (goodIn_r _ [2, 3, 4, 5] rfl rfl) (goodIn_ca (goodIn_r _ [6, 7, 8, 9, 10, 11, 12, 13, 14] rfl rfl) gs_wq_X1_hasName_wsJ00)
set_option maxHeartbeats 4000000 in
set_option maxRecDepth 100000 in
theorem c_X1_hasName (l : Launch) (dC : Nat → ClassId) (dI : Nat → Nat → Nat) (ka ad : Nat → Nat) (ct : Nat → ClassId) (h0 : Nat) (p0 : Option Nat) (st st' : CS) (r : Int32) (hf : fX1_hasName h0 p0 st = some (r, st')) (sz : Nat) : Met l yX1_hasName wq_X1_hasName ({ frames := 2, cells := 0, slots := 0, locals := 52 }) (va_Pc [.ref (ad h0), va_rf (Option.map ad p0)] (PrC (dC, dI) ct ka ad st sz)) (va_Qi (fun r' (_ : Unit) => r' = r) (fun _ => CB (dC, dI) ct ka ad st' (aC ad st sz)) (aC ad st sz)) 0 0 (aC ad st sz) := by
  refine Met.ofW (cc := cX1_hasName) (maxL := 4) (ret := (some .boolean)) (by decide) rfl ?_
  intro p e s m args below meth c s₁ B hml hv
  obtain ⟨rfl, hsz, hw0, hK, hN, hZ, hC, hR, hL, hw1, hw2⟩ := hv
  have hx := B.exec
  have hb := B.bytes
  have hr := B.returns
  have hts := atoms_spec (ws := wq_X1_hasName) B.pre
  have hown : s.vm.findClass RX1 = some m.cls := findClass_of_methodNamed B.named
  have iRX1 : ∀ w ∈ u_ws RX1 TX1 2, w ∈ wq_X1_hasName := fun w h => List.mem_cons_of_mem _ (List.mem_append_left _ (List.mem_append_left _ (List.mem_append_right _ h)))
  have iRX0 : ∀ w ∈ u_ws RX0 TX0 7, w ∈ wq_X1_hasName := fun w h => List.mem_cons_of_mem _ (List.mem_append_left _ (List.mem_append_right _ h))
  subst hsz
  have hp : Cp (dC, dI) ka ad ct (aC ad st s.heap.size) s.heap st s.heap [] := ⟨fun i a b => ⟨hw0 i a b, Or.inl ⟨i, a, b, rfl⟩⟩, va_S.rf, hw1, hw2⟩
  generalize hAe : aC ad st s.heap.size = A at hp hZ hC ⊢
  have hA : ∀ q : Nat, s.heap.size ≤ q → A q := fun q h => by rw [← hAe]; exact Or.inr h
  have hl := lv_entry ([.ref (ad h0), va_rf (Option.map ad p0)]) (n := 4) (by simp [lg_sl, rf_cat, vc_i, vc_l, vc_r, vc_n])
  rw [lg_entry_eq]
  generalize (lg_sl ([.ref (ad h0), va_rf (Option.map ad p0)]) ++ List.replicate (4 - (lg_sl ([.ref (ad h0), va_rf (Option.map ad p0)])).length) Slot.unset).toArray = ls at hl ⊢
  have hl : lv_has ls 4 [(0, .ref (ad h0)), (1, va_rf (Option.map ad p0))] := by simpa [lv_args, rf_cat, vc_i, vc_l, vc_r, vc_n] using hl
  refine W_lp (fun n2 (u : (Option Nat) × Int32 × CS) H locs ls => match u with | (l1, l2, gs) => fX1_hasName_2 h0 n2 l1 l2 gs = some (r, st') ∧ Cp (dC, dI) ka ad ct A s.heap gs H locs ∧ lv_has ls 4 [(0, .ref (ad h0)), (1, va_rf (Option.map ad l1)), (2, .int l2)]) (fun (u : (Option Nat) × Int32 × CS) ls => match u with | (l1, l2, gs) => F0 m 2 ls []) ?_ ?_ (fun J2 => ?_)
  · intro u H locs ls hu
    obtain ⟨l1, l2, gs⟩ := u
    obtain ⟨hf, hp, hl⟩ := hu
    rw [fX1_hasName_2_z] at hf
    cases hf
  · intro n2 ih2 u H locs ls hu
    obtain ⟨l1, l2, gs⟩ := u
    obtain ⟨hf, hp, hl⟩ := hu
    show W p l e _ s m _ below meth c _ _ _ _ _ (F0 m 2 ls [])
    rw [fX1_hasName_2_s] at hf
    refine lv_iload_n hx hb dX1_hasName_2 rfl (lv_at hl 2 rfl) ?_
    refine lv_aload_n hx hb dX1_hasName_3 rfl (lv_at hl 0 rfl) ?_
    obtain ⟨hk_1, hf⟩ := gd_some hf
    refine q_gp (ci := 3) (C := RX1) (T := TX1) (N := 2) (k := 0) hx hb hts iRX1 hown hK hp hk_1 (by decide) rfl rfl (by decide) rfl (Or.inl (hts (.fieldLink RX1 11 "RecordBench$Make" "fields" "[LRecordBench$Field;") (by decide +kernel))) (fun _ h9 => h9) dX1_hasName_4 ?_
    obtain ⟨a_2, ha_3, hf⟩ := ono_some hf
    refine o_at ha_3 ?_
    obtain ⟨hk_4, hf⟩ := gd_some hf
    refine q_len (t0 := 5) hx hb hK hp (hp.2.2.1.ge hk_4 (by decide) (by decide) (by decide)) hk_4 (by decide) rfl dX1_hasName_7 ?_
    refine lv_icmp_ge (tgt := 41) hx hb dX1_hasName_8 (by decide) (fun c_5 => ?_) (fun c_5 => ?_)
    · have hf := pif_t c_5 hf
      refine lv_iconst (v := 0) hx hb dX1_hasName_41 (by decide) ?_
      obtain ⟨e1, e2⟩ := pr_some hf
      exact W.zret (v := 0) hx hb hr rfl (fun t ht hW => ⟨⟨0, (), rfl, e1, Cp.end e2 hp ht⟩, hp.2.1.F ht⟩) hp.2.1.2.2 dX1_hasName_42
    · have hf := pif_f c_5 hf
      refine lv_aload_n hx hb dX1_hasName_11 rfl (lv_at hl 0 rfl) ?_
      refine q_gp (ci := 3) (C := RX1) (T := TX1) (N := 2) (k := 0) hx hb hts iRX1 hown hK hp hk_1 (by decide) rfl rfl (by decide) rfl (Or.inl (hts (.fieldLink RX1 11 "RecordBench$Make" "fields" "[LRecordBench$Field;") (by decide +kernel))) (fun _ h9 => h9) dX1_hasName_12 ?_
      refine lv_iload_n hx hb dX1_hasName_15 rfl (lv_at hl 2 rfl) ?_
      refine o_at1 ha_3 ?_
      obtain ⟨g_6, hf⟩ := gd_some hf
      refine q_aq (t0 := 5) hx hb hK hp hk_4 (by decide) rfl g_6 dX1_hasName_16 ?_
      obtain ⟨v_7, ev_7, hf⟩ := nam_some hf
      refine W_too (y := v_7) ev_7.symm ?_
      refine o_astore_n (i := 3) (lv' := [(3, va_rf (Option.map ad v_7)), (0, .ref (ad h0)), (1, va_rf (Option.map ad l1)), (2, .int l2)]) hx hb dX1_hasName_17 rfl hl (by decide) rfl (fun ls hl => ?_)
      refine o_aload_n hx hb dX1_hasName_18 rfl (lv_at hl 0 rfl) ?_
      refine o_ifnull (tgt := 35) hx hb dX1_hasName_19 (by decide) (fun c_8 => ?_) (fun c_8 => ?_)
      · have hf := pif_t c_8 hf
        obtain ⟨v_9, ev_9, hf⟩ := nam_some hf
        refine lv_iinc (v := v_9) (lv' := [(2, .int v_9), (3, va_rf (Option.map ad v_7)), (0, .ref (ad h0)), (1, va_rf (Option.map ad l1))]) hx hb dX1_hasName_35 hl (k := 3) rfl ev_9.symm (by decide) (by simp [rf_cat, vc_i, vc_l, vc_r, vc_n]) (fun ls hl => ?_)
        refine lv_goto (tgt := 2) hx hb dX1_hasName_38 (by decide) ?_
        exact ih2 (l1, v_9, gs) _ _ _ ⟨hf, hp, (lv_sub hl [2, 3, 0] rfl)⟩
      · have hf := pif_f c_8 hf
        refine o_aload_n hx hb dX1_hasName_22 rfl (lv_at hl 0 rfl) ?_
        obtain ⟨a_10, ha_11, hf⟩ := ono_some hf
        refine o_at ha_11 ?_
        obtain ⟨hk_12, hf⟩ := gd_some hf
        refine q_gp (ci := 2) (C := RX0) (T := TX0) (N := 7) (k := 4) hx hb hts iRX0 hown hK hp hk_12 (by decide) rfl rfl (by decide) rfl (Or.inr ⟨_, va_Nw.use rfl (hN.1 (.fieldLinkNest RX1 28 "RecordBench$Field" "name" "Ljava/lang/String;" "RecordBench") (by decide +kernel))⟩) (fun _ h9 => h9) dX1_hasName_23 ?_
        refine o_aload_n hx hb dX1_hasName_26 rfl (lv_at hl 2 rfl) ?_
        obtain ⟨a_13, ha_14, hf⟩ := ono_some hf
        refine o_at1 ha_14 ?_
        obtain ⟨hk_15, hf⟩ := gd_some hf
        obtain ⟨r_18, st_16, hc_17, hf⟩ := bnd_some hf
        refine q_ci hp hA (va_runV (As := [va_rf (Option.map ad l1)]) (rest := []) ⟨hx, hb, hml, hown, hts⟩ (c_J0_equals_9ea2d l dC dI ka ad ct a_13 l1 _ _ _ hc_17 _) (cwV 1 hts gq_X1_hasName_J0_equals_9ea2d_32 rfl rfl rfl (by decide +kernel) ⟨Nat.le_of_ble_eq_true rfl, Nat.le_of_ble_eq_true rfl⟩) ⟨PrC.blind _, q_recv (ci := 0) hK hp hC hk_15 (by decide) rfl (fun _ => rfl), q_pre hp hK hN hZ hC hR hL hA⟩ rfl rfl hl.1 rfl (lv_room (Nat.le_of_ble_eq_true rfl)) dX1_hasName_27 ⟨Nat.le_of_ble_eq_true rfl, Nat.le_of_ble_eq_true rfl⟩) (fun H locs hp => ?_)
        have hk_1 : qk st_16 h0 = 4 := by rw [(mo_J0_equals_9ea2d a_13 l1 _ _ _ hc_17).2.2.1]; exact hk_1
        have hk_4 : qk st_16 a_2 = 26 := by rw [(mo_J0_equals_9ea2d a_13 l1 _ _ _ hc_17).2.2.1]; exact hk_4
        have hk_12 : qk st_16 a_10 = 3 := by rw [(mo_J0_equals_9ea2d a_13 l1 _ _ _ hc_17).2.2.1]; exact hk_12
        have hk_15 : qk st_16 a_13 = 1 := by rw [(mo_J0_equals_9ea2d a_13 l1 _ _ _ hc_17).2.2.1]; exact hk_15
        refine lv_if_eq (tgt := 35) hx hb dX1_hasName_30 (by decide) (fun c_19 => ?_) (fun c_19 => ?_)
        · have hf := pif_t c_19 hf
          obtain ⟨v_20, ev_20, hf⟩ := nam_some hf
          refine lv_iinc (v := v_20) (lv' := [(2, .int v_20), (3, va_rf (Option.map ad v_7)), (0, .ref (ad h0)), (1, va_rf (Option.map ad l1))]) hx hb dX1_hasName_35 hl (k := 3) rfl ev_20.symm (by decide) (by simp [rf_cat, vc_i, vc_l, vc_r, vc_n]) (fun ls hl => ?_)
          refine lv_goto (tgt := 2) hx hb dX1_hasName_38 (by decide) ?_
          exact ih2 (l1, v_20, st_16) _ _ _ ⟨hf, hp, (lv_sub hl [2, 3, 0] rfl)⟩
        · have hf := pif_f c_19 hf
          refine lv_iconst (v := 1) hx hb dX1_hasName_33 (by decide) ?_
          obtain ⟨e1, e2⟩ := pr_some hf
          exact W.zret (v := 1) hx hb hr rfl (fun t ht hW => ⟨⟨1, (), rfl, e1, Cp.end e2 hp ht⟩, hp.2.1.F ht⟩) hp.2.1.2.2 dX1_hasName_34
  unfold fX1_hasName at hf
  refine lv_iconst (v := 0) hx hb dX1_hasName_0 (by decide) ?_
  refine lv_istore_n (i := 2) (lv' := [(2, .int 0), (0, .ref (ad h0)), (1, va_rf (Option.map ad p0))]) hx hb dX1_hasName_1 rfl hl (by decide) (by simp [rf_cat, vc_i, vc_l, vc_r, vc_n]) (fun ls hl => ?_)
  exact J2 fuel (p0, 0, st) _ _ _ ⟨hf, hp, (lv_sub hl [1, 2, 0] rfl)⟩
noncomputable def fX1_add (h0 : Nat) (p0 : Option Nat) (st : CS) : Option (Int32 × CS) := ono p0 (fun a_1 => gd (qk st a_1 = 3) (pif ((qI st a_1 0) < 0) (some ((0 : Int32), st)) (gd (qk st h0 = 4) (ono (qP st h0 0) (fun a_6 => gd (qk st a_6 = 26) (pif ((qI st a_1 0) < (nI (ql st a_6))) (gd (vp_in (qI st a_1 0) (ql st a_6)) (nam (wP st a_6 (qI st a_1 0).toNatClampNeg (some a_1)) (fun st_11 => nam (wI st_11 h0 1 ((qI st_11 h0 1) + 1)) (fun st_12 => some ((1 : Int32), st_12))))) (some ((0 : Int32), st))))))))
set_option maxHeartbeats 1000000 in
theorem mo_X1_add (h0 : Nat) (p0 : Option Nat) (st : CS) (r : Int32) (st' : CS) (hf : fX1_add h0 p0 st = some (r, st')) : Ke st st' := by
  unfold fX1_add at hf
  have hm : Ke st st := Ke.rf
  obtain ⟨a_1, ha_2, hf⟩ := ono_some hf
  obtain ⟨hk_3, hf⟩ := gd_some hf
  rcases pif_or hf with ⟨c_4, hf⟩ | ⟨c_4, hf⟩
  · obtain ⟨e1, e2⟩ := pr_some hf
    exact e2 ▸ hm
  · obtain ⟨hk_5, hf⟩ := gd_some hf
    obtain ⟨a_6, ha_7, hf⟩ := ono_some hf
    obtain ⟨hk_8, hf⟩ := gd_some hf
    rcases pif_or hf with ⟨c_9, hf⟩ | ⟨c_9, hf⟩
    · obtain ⟨g_10, hf⟩ := gd_some hf
      obtain ⟨st_11, est_11, hf⟩ := nam_some hf
      have hm := hm.wP est_11
      obtain ⟨st_12, est_12, hf⟩ := nam_some hf
      have hm := hm.wI est_12
      obtain ⟨e1, e2⟩ := pr_some hf
      exact e2 ▸ hm
    · obtain ⟨e1, e2⟩ := pr_some hf
      exact e2 ▸ hm
def wq_X1_add : List Cond := .code yX1_add cX1_add 2 (some .boolean) :: (([.fieldLink RX1 11 "RecordBench$Make" "fields" "[LRecordBench$Field;", .fieldLink RX1 17 "RecordBench$Make" "count" "I"] : List Cond) ++ wsX00 ++ wsX10)
set_option maxHeartbeats 4000000 in
set_option maxRecDepth 100000 in
theorem c_X1_add (l : Launch) (dC : Nat → ClassId) (dI : Nat → Nat → Nat) (ka ad : Nat → Nat) (ct : Nat → ClassId) (h0 : Nat) (p0 : Option Nat) (st st' : CS) (r : Int32) (hf : fX1_add h0 p0 st = some (r, st')) (sz : Nat) : Met l yX1_add wq_X1_add ({ frames := 0, cells := 0, slots := 0, locals := 0 }) (va_Pc [.ref (ad h0), va_rf (Option.map ad p0)] (PrC (dC, dI) ct ka ad st sz)) (va_Qi (fun r' (_ : Unit) => r' = r) (fun _ => CB (dC, dI) ct ka ad st' (aC ad st sz)) (aC ad st sz)) 0 0 (aC ad st sz) := by
  refine Met.ofW (cc := cX1_add) (maxL := 2) (ret := (some .boolean)) (by decide) rfl ?_
  intro p e s m args below meth c s₁ B hml hv
  obtain ⟨rfl, hsz, hw0, hK, hN, hZ, hC, hR, hL, hw1, hw2⟩ := hv
  have hx := B.exec
  have hb := B.bytes
  have hr := B.returns
  have hts := atoms_spec (ws := wq_X1_add) B.pre
  have hown : s.vm.findClass RX1 = some m.cls := findClass_of_methodNamed B.named
  have iRX0 : ∀ w ∈ u_ws RX0 TX0 7, w ∈ wq_X1_add := fun w h => List.mem_cons_of_mem _ (List.mem_append_left _ (List.mem_append_right _ h))
  have iRX1 : ∀ w ∈ u_ws RX1 TX1 2, w ∈ wq_X1_add := fun w h => List.mem_cons_of_mem _ (List.mem_append_right _ h)
  subst hsz
  have hp : Cp (dC, dI) ka ad ct (aC ad st s.heap.size) s.heap st s.heap [] := ⟨fun i a b => ⟨hw0 i a b, Or.inl ⟨i, a, b, rfl⟩⟩, va_S.rf, hw1, hw2⟩
  generalize hAe : aC ad st s.heap.size = A at hp hZ hC ⊢
  have hA : ∀ q : Nat, s.heap.size ≤ q → A q := fun q h => by rw [← hAe]; exact Or.inr h
  have hl := lv_entry ([.ref (ad h0), va_rf (Option.map ad p0)]) (n := 2) (by simp [lg_sl, rf_cat, vc_i, vc_l, vc_r, vc_n])
  rw [lg_entry_eq]
  generalize (lg_sl ([.ref (ad h0), va_rf (Option.map ad p0)]) ++ List.replicate (2 - (lg_sl ([.ref (ad h0), va_rf (Option.map ad p0)])).length) Slot.unset).toArray = ls at hl ⊢
  have hl : lv_has ls 2 [(0, .ref (ad h0)), (1, va_rf (Option.map ad p0))] := by simpa [lv_args, rf_cat, vc_i, vc_l, vc_r, vc_n] using hl
  unfold fX1_add at hf
  refine o_aload_n hx hb dX1_add_0 rfl (lv_at hl 1 rfl) ?_
  obtain ⟨a_1, ha_2, hf⟩ := ono_some hf
  refine o_at ha_2 ?_
  obtain ⟨hk_3, hf⟩ := gd_some hf
  refine q_gi (ci := 2) (C := RX0) (T := TX0) (N := 7) (k := 0) hx hb hts iRX0 hown hK hp hk_3 (by decide) rfl rfl (by decide) rfl (Or.inr ⟨_, va_Nw.use rfl (hN.1 (.fieldLinkNest RX1 38 "RecordBench$Field" "number" "I" "RecordBench") (by decide +kernel))⟩) (fun _ h9 => h9) dX1_add_1 ?_
  refine lv_if_lt (tgt := 19) hx hb dX1_add_4 (by decide) (fun c_4 => ?_) (fun c_4 => ?_)
  · have hf := pif_t c_4 hf
    refine lv_iconst (v := 0) hx hb dX1_add_19 (by decide) ?_
    obtain ⟨e1, e2⟩ := pr_some hf
    exact W.zret (v := 0) hx hb hr rfl (fun t ht hW => ⟨⟨0, (), rfl, e1, Cp.end e2 hp ht⟩, hp.2.1.F ht⟩) hp.2.1.2.2 dX1_add_20
  · have hf := pif_f c_4 hf
    refine o_aload_n hx hb dX1_add_7 rfl (lv_at hl 1 rfl) ?_
    refine o_at ha_2 ?_
    refine q_gi (ci := 2) (C := RX0) (T := TX0) (N := 7) (k := 0) hx hb hts iRX0 hown hK hp hk_3 (by decide) rfl rfl (by decide) rfl (Or.inr ⟨_, va_Nw.use rfl (hN.1 (.fieldLinkNest RX1 38 "RecordBench$Field" "number" "I" "RecordBench") (by decide +kernel))⟩) (fun _ h9 => h9) dX1_add_8 ?_
    refine lv_aload_n hx hb dX1_add_11 rfl (lv_at hl 0 rfl) ?_
    obtain ⟨hk_5, hf⟩ := gd_some hf
    refine q_gp (ci := 3) (C := RX1) (T := TX1) (N := 2) (k := 0) hx hb hts iRX1 hown hK hp hk_5 (by decide) rfl rfl (by decide) rfl (Or.inl (hts (.fieldLink RX1 11 "RecordBench$Make" "fields" "[LRecordBench$Field;") (by decide +kernel))) (fun _ h9 => h9) dX1_add_12 ?_
    obtain ⟨a_6, ha_7, hf⟩ := ono_some hf
    refine o_at ha_7 ?_
    obtain ⟨hk_8, hf⟩ := gd_some hf
    refine q_len (t0 := 5) hx hb hK hp (hp.2.2.1.ge hk_8 (by decide) (by decide) (by decide)) hk_8 (by decide) rfl dX1_add_15 ?_
    refine lv_icmp_lt (tgt := 21) hx hb dX1_add_16 (by decide) (fun c_9 => ?_) (fun c_9 => ?_)
    · have hf := pif_t c_9 hf
      refine lv_aload_n hx hb dX1_add_21 rfl (lv_at hl 0 rfl) ?_
      refine q_gp (ci := 3) (C := RX1) (T := TX1) (N := 2) (k := 0) hx hb hts iRX1 hown hK hp hk_5 (by decide) rfl rfl (by decide) rfl (Or.inl (hts (.fieldLink RX1 11 "RecordBench$Make" "fields" "[LRecordBench$Field;") (by decide +kernel))) (fun _ h9 => h9) dX1_add_22 ?_
      refine o_aload_n hx hb dX1_add_25 rfl (lv_at hl 1 rfl) ?_
      refine o_at ha_2 ?_
      refine q_gi (ci := 2) (C := RX0) (T := TX0) (N := 7) (k := 0) hx hb hts iRX0 hown hK hp hk_3 (by decide) rfl rfl (by decide) rfl (Or.inr ⟨_, va_Nw.use rfl (hN.1 (.fieldLinkNest RX1 38 "RecordBench$Field" "number" "I" "RecordBench") (by decide +kernel))⟩) (fun _ h9 => h9) dX1_add_26 ?_
      refine o_aload_n hx hb dX1_add_29 rfl (lv_at hl 1 rfl) ?_
      refine o_at ha_2 ?_
      refine o_at2 ha_7 ?_
      obtain ⟨g_10, hf⟩ := gd_some hf
      refine q_sq (t0 := 5) (cj := 2) hx hb hK hp hk_8 (by decide) rfl hk_3 (by decide) (by decide) rfl g_10 dX1_add_30 (fun H locs hp => ?_)
      obtain ⟨st_11, est_11, hf⟩ := nam_some hf
      rw [← est_11] at hp
      have hk_3 : qk st_11 a_1 = 3 := by rw [est_11]; exact hk_3
      have hk_5 : qk st_11 h0 = 4 := by rw [est_11]; exact hk_5
      have hk_8 : qk st_11 a_6 = 26 := by rw [est_11]; exact hk_8
      refine lv_aload_n hx hb dX1_add_31 rfl (lv_at hl 0 rfl) ?_
      refine lv_dup hx hb dX1_add_32 rfl ?_
      refine q_gi (ci := 3) (C := RX1) (T := TX1) (N := 2) (k := 1) hx hb hts iRX1 hown hK hp hk_5 (by decide) rfl rfl (by decide) rfl (Or.inl (hts (.fieldLink RX1 17 "RecordBench$Make" "count" "I") (by decide +kernel))) (fun _ h9 => h9) dX1_add_33 ?_
      refine lv_iconst (v := 1) hx hb dX1_add_36 (by decide) ?_
      refine lv_iadd hx hb dX1_add_37 ?_
      refine q_pi (ci := 3) (C := RX1) (T := TX1) (N := 2) (k := 1) (v := (qI st_11 h0 1) + 1) (ty := .int) hx hb hts iRX1 tyX1 tyX1_ok nmX1 hown hK hp hk_5 (by decide) rfl rfl (by decide) rfl (Or.inl (hts (.fieldLink RX1 17 "RecordBench$Make" "count" "I") (by decide +kernel))) (fun _ h9 => h9) rfl (by decide +kernel) rfl rfl dX1_add_38 (fun H locs hp => ?_)
      obtain ⟨st_12, est_12, hf⟩ := nam_some hf
      rw [← est_12] at hp
      have hk_3 : qk st_12 a_1 = 3 := by rw [est_12]; exact hk_3
      have hk_5 : qk st_12 h0 = 4 := by rw [est_12]; exact hk_5
      have hk_8 : qk st_12 a_6 = 26 := by rw [est_12]; exact hk_8
      refine lv_iconst (v := 1) hx hb dX1_add_41 (by decide) ?_
      obtain ⟨e1, e2⟩ := pr_some hf
      exact W.zret (v := 1) hx hb hr rfl (fun t ht hW => ⟨⟨1, (), rfl, e1, Cp.end e2 hp ht⟩, hp.2.1.F ht⟩) hp.2.1.2.2 dX1_add_42
    · have hf := pif_f c_9 hf
      refine lv_iconst (v := 0) hx hb dX1_add_19 (by decide) ?_
      obtain ⟨e1, e2⟩ := pr_some hf
      exact W.zret (v := 0) hx hb hr rfl (fun t ht hW => ⟨⟨0, (), rfl, e1, Cp.end e2 hp ht⟩, hp.2.1.F ht⟩) hp.2.1.2.2 dX1_add_20
noncomputable def fX1_init_10 (h0 : Nat)  (s0 : Option Nat) (gs : CS) : Option (CS) := gd (qk gs h0 = 4) (nam (wP gs h0 0 s0) (fun st_2 => nam (wI st_2 h0 1 0) (fun st_3 => some st_3)))
set_option maxHeartbeats 1000000 in
theorem mo_X1_init_10 (h0 : Nat)   (s0 : Option Nat) (gs : CS) (st' : CS) (hf : fX1_init_10 h0 s0 gs = some st') : Mo gs st' := by
  unfold fX1_init_10 at hf
  have hm : Mo gs gs := Mo.rf
  obtain ⟨hk_1, hf⟩ := gd_some hf
  obtain ⟨st_2, est_2, hf⟩ := nam_some hf
  have hm := hm.wP est_2
  obtain ⟨st_3, est_3, hf⟩ := nam_some hf
  have hm := hm.wI est_3
  have e2 := Option.some.inj hf
  exact e2 ▸ hm
noncomputable def fX1_init_4 (h0 : Nat)  (gs : CS) : Option (CS) := gd (¬ (31 : Int32) < 0 ∧ (31 : Int32).toNatClampNeg * 4 ≤ 536870912) (nam (wN gs 26 (31 : Int32).toNatClampNeg (31 : Int32).toNatClampNeg) (fun st_5 => fX1_init_10 h0 (some (qn gs)) st_5))
set_option maxHeartbeats 1000000 in
theorem mo_X1_init_4 (h0 : Nat)   (gs : CS) (st' : CS) (hf : fX1_init_4 h0 gs = some st') : Mo gs st' := by
  unfold fX1_init_4 at hf
  have hm : Mo gs gs := Mo.rf
  obtain ⟨g_4, hf⟩ := gd_some hf
  obtain ⟨st_5, est_5, hf⟩ := nam_some hf
  have hm := hm.wN est_5
  exact hm.tr (mo_X1_init_10 h0 (some (qn gs)) st_5 _ hf)
noncomputable def fX1_init (h0 : Nat) (st : CS) : Option (CS) := fX1_init_4 h0 st
set_option maxHeartbeats 1000000 in
theorem mo_X1_init (h0 : Nat) (st : CS) (st' : CS) (hf : fX1_init h0 st = some st') : Mo st st' := by
  unfold fX1_init at hf
  have hm : Mo st st := Mo.rf
  exact hm.tr (mo_X1_init_4 h0 st _ hf)
def wq_X1_init : List Cond := .code yX1_init cX1_init 1 none :: (([.methodLink RX1 3 objectInit, .instanceMethod objectInit, .code objectInit ⟨#[0xb1]⟩ 1 none, .fieldLink RX1 11 "RecordBench$Make" "fields" "[LRecordBench$Field;", .fieldLink RX1 17 "RecordBench$Make" "count" "I", .classLink RX1 9 RX0] : List Cond) ++ wsX10)
set_option maxHeartbeats 4000000 in
set_option maxRecDepth 100000 in
theorem c_X1_init (l : Launch) (dC : Nat → ClassId) (dI : Nat → Nat → Nat) (ka ad : Nat → Nat) (ct : Nat → ClassId) (h0 : Nat) (st st' : CS) (hf : fX1_init h0 st = some st') (sz : Nat) : Met l yX1_init wq_X1_init ({ frames := 1, cells := (qn st' - qn st), slots := (qs st' - qs st), locals := 16 }) (va_Pc [.ref (ad h0)] (PrC (dC, dI) ct ka ad st sz)) (va_Qv (fun (_ : Unit) => True) (fun _ => CB (dC, dI) ct ka ad st' (aC ad st sz)) (aC ad st sz)) (qn st' - qn st) (qs st' - qs st) (aC ad st sz) := by
  refine Met.ofW (cc := cX1_init) (maxL := 1) (ret := none) (by decide) rfl ?_
  intro p e s m args below meth c s₁ B hml hv
  obtain ⟨rfl, hsz, hw0, hK, hN, hZ, hC, hR, hL, hw1, hw2⟩ := hv
  have hx := B.exec
  have hb := B.bytes
  have hr := B.returns
  have hts := atoms_spec (ws := wq_X1_init) B.pre
  have hown : s.vm.findClass RX1 = some m.cls := findClass_of_methodNamed B.named
  have hin : meth.name = "<init>" := (name_of_methodNamed B.named B.method).1
  have iRX1 : ∀ w ∈ u_ws RX1 TX1 2, w ∈ wq_X1_init := fun w h => List.mem_cons_of_mem _ (List.mem_append_right _ h)
  subst hsz
  have hp : Cp (dC, dI) ka ad ct (aC ad st s.heap.size) s.heap st s.heap [] := ⟨fun i a b => ⟨hw0 i a b, Or.inl ⟨i, a, b, rfl⟩⟩, va_S.rf, hw1, hw2⟩
  generalize hAe : aC ad st s.heap.size = A at hp hZ hC ⊢
  have hA : ∀ q : Nat, s.heap.size ≤ q → A q := fun q h => by rw [← hAe]; exact Or.inr h
  have hl := lv_entry ([.ref (ad h0)]) (n := 1) (Nat.le_of_ble_eq_true rfl)
  rw [lg_entry_eq]
  generalize (lg_sl ([.ref (ad h0)]) ++ List.replicate (1 - (lg_sl ([.ref (ad h0)])).length) Slot.unset).toArray = ls at hl ⊢
  have hl : lv_has ls 1 [(0, .ref (ad h0))] := hl
  have hm : Mo st st := Mo.rf
  refine W.widen (k := qn st - qn st) (n := qs st - qs st) (Nat.zero_le _) (Nat.zero_le _) ?_
  refine W_blkA (fun (u : (Option Nat) × CS) H locs ls => match u with | (s0, gs) => fX1_init_10 h0 s0 gs = some st' ∧ Cp (dC, dI) ka ad ct A s.heap gs H locs ∧ lv_has ls 1 [(0, .ref (ad h0))] ∧ Mo st gs) (fun (u : (Option Nat) × CS) ls => match u with | (s0, gs) => F0 m 10 ls [va_rf (Option.map ad s0), .ref (ad h0)]) (fun (u : (Option Nat) × CS) => match u with | (s0, gs) => qn gs - qn st) (fun (u : (Option Nat) × CS) => match u with | (s0, gs) => qs gs - qs st) ?_ (fun J10 => ?_)
  · intro u H locs ls hu
    obtain ⟨s0, gs⟩ := u
    obtain ⟨hf, hp, hl, hm⟩ := hu
    show W p l e _ s m _ below meth c _ _ (qn gs - qn st) (qs gs - qs st) _ (F0 m 10 ls [va_rf (Option.map ad s0), .ref (ad h0)])
    unfold fX1_init_10 at hf
    obtain ⟨hk_1, hf⟩ := gd_some hf
    refine q_pFp (ci := 3) (C := RX1) (T := TX1) (N := 2) (k := 0) (v := s0) (ty := (.array (.object "RecordBench$Field"))) hx hb hts iRX1 tyX1 tyX1_ok nmX1 hown hK hp (hp.2.2.1.ge hk_1 (by decide) (by decide) (by decide)) hk_1 (by decide) rfl rfl (by decide) rfl (hts (.fieldLink RX1 11 "RecordBench$Make" "fields" "[LRecordBench$Field;") (by decide +kernel)) (fun _ h9 => h9) rfl hin rfl (by decide +kernel) (rf_narA rfl _) dX1_init_10 (fun H locs hp => ?_)
    obtain ⟨st_2, est_2, hf⟩ := nam_some hf
    rw [← est_2] at hp
    have hm := hm.wP est_2
    refine W.widen (k := qn st_2 - qn st) (n := qs st_2 - qs st) (by rw [est_2]; exact Nat.le_refl _) (by rw [est_2]; exact Nat.le_refl _) ?_
    have hk_1 : qk st_2 h0 = 4 := by rw [est_2]; exact hk_1
    refine lv_aload_n hx hb dX1_init_13 rfl (lv_at hl 0 rfl) ?_
    refine lv_iconst (v := 0) hx hb dX1_init_14 (by decide) ?_
    refine q_pi (ci := 3) (C := RX1) (T := TX1) (N := 2) (k := 1) (v := 0) (ty := .int) hx hb hts iRX1 tyX1 tyX1_ok nmX1 hown hK hp hk_1 (by decide) rfl rfl (by decide) rfl (Or.inl (hts (.fieldLink RX1 17 "RecordBench$Make" "count" "I") (by decide +kernel))) (fun _ h9 => h9) rfl (by decide +kernel) rfl rfl dX1_init_15 (fun H locs hp => ?_)
    obtain ⟨st_3, est_3, hf⟩ := nam_some hf
    rw [← est_3] at hp
    have hm := hm.wI est_3
    refine W.widen (k := qn st_3 - qn st) (n := qs st_3 - qs st) (by rw [est_3]; exact Nat.le_refl _) (by rw [est_3]; exact Nat.le_refl _) ?_
    have hk_1 : qk st_3 h0 = 4 := by rw [est_3]; exact hk_1
    have e2 := Option.some.inj hf
    refine W.widen (k := qn st' - qn st) (n := qs st' - qs st) (by rw [e2]; exact Nat.le_refl _) (by rw [e2]; exact Nat.le_refl _) ?_
    exact W.vret hx hb hr (fun t ht hW => ⟨⟨(), rfl, trivial, Cp.end e2 hp ht⟩, hp.2.1.F ht⟩) hp.2.1.2.2 dX1_init_18
  refine W_blkA (fun (gs : CS) H locs ls => fX1_init_4 h0 gs = some st' ∧ Cp (dC, dI) ka ad ct A s.heap gs H locs ∧ lv_has ls 1 [(0, .ref (ad h0))] ∧ Mo st gs) (fun (gs : CS) ls => F0 m 4 ls []) (fun (gs : CS) => qn gs - qn st) (fun (gs : CS) => qs gs - qs st) ?_ (fun J4 => ?_)
  · intro u H locs ls hu
    obtain ⟨gs, rfl⟩ : ∃ z, z = u := ⟨_, rfl⟩
    obtain ⟨hf, hp, hl, hm⟩ := hu
    show W p l e _ s m _ below meth c _ _ (qn gs - qn st) (qs gs - qs st) _ (F0 m 4 ls [])
    unfold fX1_init_4 at hf
    refine lv_aload_n hx hb dX1_init_4 rfl (lv_at hl 0 rfl) ?_
    refine lv_bipush (v := 31) hx hb dX1_init_5 (by decide) ?_
    obtain ⟨g_4, hf⟩ := gd_some hf
    obtain ⟨st_5, est_5, hf⟩ := nam_some hf
    have hmr := mo_X1_init_10 h0 _ _ _ hf
    refine q_newq (kd := 26) (t0 := 5) (E := RX0) hx hb hown (hts (.classLink RX1 9 RX0) (by decide +kernel)) (hN.2 RX0 (by decide)) hK hp hA (by decide) rfl g_4.1 g_4.2 (by show qn gs - qn st + 1 ≤ qn st' - qn st; have := hmr.1; have := hm.1; have := (wN_n est_5).1; omega) (by show qs gs - qs st + (31 : Int32).toNatClampNeg ≤ qs st' - qs st; have := hmr.2.1; have := hm.2.1; have := (wN_n est_5).2; omega) dX1_init_7 (fun H hp => ?_)
    rw [← est_5] at hp
    refine W.widen (k := qn st_5 - qn st) (n := qs st_5 - qs st) (by have := hm.1; have := (wN_n est_5).1; omega) (by have := hm.2.1; have := (wN_n est_5).2; omega) ?_
    have hm := hm.wN est_5
    exact J10 ((some (qn gs)), st_5) _ _ _ ⟨hf, hp, (lv_sub hl [0] rfl), hm⟩
  unfold fX1_init at hf
  refine lv_aload_n hx hb dX1_init_0 rfl (lv_at hl 0 rfl) ?_
  refine W.objInit hx hb hown (hts (.methodLink RX1 3 objectInit) (by decide +kernel)) (hts (.instanceMethod objectInit) (by decide +kernel)) (hts (.code objectInit ⟨#[0xb1]⟩ 1 none) (by decide +kernel)) rfl (by rw [hml]; exact hl.1) rfl dX1_init_1 (Nat.le_of_ble_eq_true rfl) (Nat.le_of_ble_eq_true rfl) ?_
  refine W.eq (g2 := F0 m 4 ls []) rfl ?_
  exact J4 st _ _ _ ⟨hf, hp, (lv_sub hl [0] rfl), hm⟩
noncomputable def fX6_faultFound (h0 : Nat) (st : CS) : Option (Int32 × CS) := gd (qk st h0 = 9) (some (qI st h0 4, st))
set_option maxHeartbeats 1000000 in
theorem mo_X6_faultFound (h0 : Nat) (st : CS) (r : Int32) (st' : CS) (hf : fX6_faultFound h0 st = some (r, st')) : Ke st st' := by
  unfold fX6_faultFound at hf
  have hm : Ke st st := Ke.rf
  obtain ⟨hk_1, hf⟩ := gd_some hf
  obtain ⟨e1, e2⟩ := pr_some hf
  exact e2 ▸ hm
def wq_X6_faultFound : List Cond := .code yX6_faultFound cX6_faultFound 1 (some .int) :: (([.fieldLink RX6 30 "RecordBench$TextReader" "fault" "I"] : List Cond) ++ wsX60)
set_option maxHeartbeats 4000000 in
set_option maxRecDepth 100000 in
theorem c_X6_faultFound (l : Launch) (dC : Nat → ClassId) (dI : Nat → Nat → Nat) (ka ad : Nat → Nat) (ct : Nat → ClassId) (h0 : Nat) (st st' : CS) (r : Int32) (hf : fX6_faultFound h0 st = some (r, st')) (sz : Nat) : Met l yX6_faultFound wq_X6_faultFound ({ frames := 0, cells := 0, slots := 0, locals := 0 }) (va_Pc [.ref (ad h0)] (PrC (dC, dI) ct ka ad st sz)) (va_Qi (fun r' (_ : Unit) => r' = r) (fun _ => CB (dC, dI) ct ka ad st' (aC ad st sz)) (aC ad st sz)) 0 0 (aC ad st sz) := by
  refine Met.ofW (cc := cX6_faultFound) (maxL := 1) (ret := (some .int)) (by decide) rfl ?_
  intro p e s m args below meth c s₁ B hml hv
  obtain ⟨rfl, hsz, hw0, hK, hN, hZ, hC, hR, hL, hw1, hw2⟩ := hv
  have hx := B.exec
  have hb := B.bytes
  have hr := B.returns
  have hts := atoms_spec (ws := wq_X6_faultFound) B.pre
  have hown : s.vm.findClass RX6 = some m.cls := findClass_of_methodNamed B.named
  have iRX6 : ∀ w ∈ u_ws RX6 TX6 6, w ∈ wq_X6_faultFound := fun w h => List.mem_cons_of_mem _ (List.mem_append_right _ h)
  subst hsz
  have hp : Cp (dC, dI) ka ad ct (aC ad st s.heap.size) s.heap st s.heap [] := ⟨fun i a b => ⟨hw0 i a b, Or.inl ⟨i, a, b, rfl⟩⟩, va_S.rf, hw1, hw2⟩
  generalize hAe : aC ad st s.heap.size = A at hp hZ hC ⊢
  have hA : ∀ q : Nat, s.heap.size ≤ q → A q := fun q h => by rw [← hAe]; exact Or.inr h
  have hl := lv_entry ([.ref (ad h0)]) (n := 1) (Nat.le_of_ble_eq_true rfl)
  rw [lg_entry_eq]
  generalize (lg_sl ([.ref (ad h0)]) ++ List.replicate (1 - (lg_sl ([.ref (ad h0)])).length) Slot.unset).toArray = ls at hl ⊢
  have hl : lv_has ls 1 [(0, .ref (ad h0))] := hl
  unfold fX6_faultFound at hf
  refine lv_aload_n hx hb dX6_faultFound_0 rfl (lv_at hl 0 rfl) ?_
  obtain ⟨hk_1, hf⟩ := gd_some hf
  refine q_gi (ci := 8) (C := RX6) (T := TX6) (N := 6) (k := 4) hx hb hts iRX6 hown hK hp hk_1 (by decide) rfl rfl (by decide) rfl (Or.inl (hts (.fieldLink RX6 30 "RecordBench$TextReader" "fault" "I") (by decide +kernel))) (fun _ h9 => h9) dX6_faultFound_1 ?_
  obtain ⟨e1, e2⟩ := pr_some hf
  exact W.iret (v := qI st h0 4) hx hb hr (fun t ht hW => ⟨⟨qI st h0 4, (), rfl, e1, Cp.end e2 hp ht⟩, hp.2.1.F ht⟩) hp.2.1.2.2 dX6_faultFound_4
noncomputable def fX6_placeFound (h0 : Nat) (st : CS) : Option (Int32 × CS) := gd (qk st h0 = 9) (some (qI st h0 5, st))
set_option maxHeartbeats 1000000 in
theorem mo_X6_placeFound (h0 : Nat) (st : CS) (r : Int32) (st' : CS) (hf : fX6_placeFound h0 st = some (r, st')) : Ke st st' := by
  unfold fX6_placeFound at hf
  have hm : Ke st st := Ke.rf
  obtain ⟨hk_1, hf⟩ := gd_some hf
  obtain ⟨e1, e2⟩ := pr_some hf
  exact e2 ▸ hm
def wq_X6_placeFound : List Cond := .code yX6_placeFound cX6_placeFound 1 (some .int) :: (([.fieldLink RX6 33 "RecordBench$TextReader" "place" "I"] : List Cond) ++ wsX60)
set_option maxHeartbeats 4000000 in
set_option maxRecDepth 100000 in
theorem c_X6_placeFound (l : Launch) (dC : Nat → ClassId) (dI : Nat → Nat → Nat) (ka ad : Nat → Nat) (ct : Nat → ClassId) (h0 : Nat) (st st' : CS) (r : Int32) (hf : fX6_placeFound h0 st = some (r, st')) (sz : Nat) : Met l yX6_placeFound wq_X6_placeFound ({ frames := 0, cells := 0, slots := 0, locals := 0 }) (va_Pc [.ref (ad h0)] (PrC (dC, dI) ct ka ad st sz)) (va_Qi (fun r' (_ : Unit) => r' = r) (fun _ => CB (dC, dI) ct ka ad st' (aC ad st sz)) (aC ad st sz)) 0 0 (aC ad st sz) := by
  refine Met.ofW (cc := cX6_placeFound) (maxL := 1) (ret := (some .int)) (by decide) rfl ?_
  intro p e s m args below meth c s₁ B hml hv
  obtain ⟨rfl, hsz, hw0, hK, hN, hZ, hC, hR, hL, hw1, hw2⟩ := hv
  have hx := B.exec
  have hb := B.bytes
  have hr := B.returns
  have hts := atoms_spec (ws := wq_X6_placeFound) B.pre
  have hown : s.vm.findClass RX6 = some m.cls := findClass_of_methodNamed B.named
  have iRX6 : ∀ w ∈ u_ws RX6 TX6 6, w ∈ wq_X6_placeFound := fun w h => List.mem_cons_of_mem _ (List.mem_append_right _ h)
  subst hsz
  have hp : Cp (dC, dI) ka ad ct (aC ad st s.heap.size) s.heap st s.heap [] := ⟨fun i a b => ⟨hw0 i a b, Or.inl ⟨i, a, b, rfl⟩⟩, va_S.rf, hw1, hw2⟩
  generalize hAe : aC ad st s.heap.size = A at hp hZ hC ⊢
  have hA : ∀ q : Nat, s.heap.size ≤ q → A q := fun q h => by rw [← hAe]; exact Or.inr h
  have hl := lv_entry ([.ref (ad h0)]) (n := 1) (Nat.le_of_ble_eq_true rfl)
  rw [lg_entry_eq]
  generalize (lg_sl ([.ref (ad h0)]) ++ List.replicate (1 - (lg_sl ([.ref (ad h0)])).length) Slot.unset).toArray = ls at hl ⊢
  have hl : lv_has ls 1 [(0, .ref (ad h0))] := hl
  unfold fX6_placeFound at hf
  refine lv_aload_n hx hb dX6_placeFound_0 rfl (lv_at hl 0 rfl) ?_
  obtain ⟨hk_1, hf⟩ := gd_some hf
  refine q_gi (ci := 8) (C := RX6) (T := TX6) (N := 6) (k := 5) hx hb hts iRX6 hown hK hp hk_1 (by decide) rfl rfl (by decide) rfl (Or.inl (hts (.fieldLink RX6 33 "RecordBench$TextReader" "place" "I") (by decide +kernel))) (fun _ h9 => h9) dX6_placeFound_1 ?_
  obtain ⟨e1, e2⟩ := pr_some hf
  exact W.iret (v := qI st h0 5) hx hb hr (fun t ht hW => ⟨⟨qI st h0 5, (), rfl, e1, Cp.end e2 hp ht⟩, hp.2.1.F ht⟩) hp.2.1.2.2 dX6_placeFound_4
noncomputable def fX6_refuse (h0 : Nat) (p0 : Int32) (p1 : Int32) (st : CS) : Option (Int32 × CS) := gd (qk st h0 = 9) (nam (wI st h0 4 p0) (fun st_2 => nam (wI st_2 h0 5 p1) (fun st_3 => some ((0 : Int32), st_3))))
set_option maxHeartbeats 1000000 in
theorem mo_X6_refuse (h0 : Nat) (p0 : Int32) (p1 : Int32) (st : CS) (r : Int32) (st' : CS) (hf : fX6_refuse h0 p0 p1 st = some (r, st')) : Ke st st' := by
  unfold fX6_refuse at hf
  have hm : Ke st st := Ke.rf
  obtain ⟨hk_1, hf⟩ := gd_some hf
  obtain ⟨st_2, est_2, hf⟩ := nam_some hf
  have hm := hm.wI est_2
  obtain ⟨st_3, est_3, hf⟩ := nam_some hf
  have hm := hm.wI est_3
  obtain ⟨e1, e2⟩ := pr_some hf
  exact e2 ▸ hm
def wq_X6_refuse : List Cond := .code yX6_refuse cX6_refuse 3 (some .boolean) :: (([.fieldLink RX6 30 "RecordBench$TextReader" "fault" "I", .fieldLink RX6 33 "RecordBench$TextReader" "place" "I"] : List Cond) ++ wsX60)
set_option maxHeartbeats 4000000 in
set_option maxRecDepth 100000 in
theorem c_X6_refuse (l : Launch) (dC : Nat → ClassId) (dI : Nat → Nat → Nat) (ka ad : Nat → Nat) (ct : Nat → ClassId) (h0 : Nat) (p0 : Int32) (p1 : Int32) (st st' : CS) (r : Int32) (hf : fX6_refuse h0 p0 p1 st = some (r, st')) (sz : Nat) : Met l yX6_refuse wq_X6_refuse ({ frames := 0, cells := 0, slots := 0, locals := 0 }) (va_Pc [.ref (ad h0), .int p0, .int p1] (PrC (dC, dI) ct ka ad st sz)) (va_Qi (fun r' (_ : Unit) => r' = r) (fun _ => CB (dC, dI) ct ka ad st' (aC ad st sz)) (aC ad st sz)) 0 0 (aC ad st sz) := by
  refine Met.ofW (cc := cX6_refuse) (maxL := 3) (ret := (some .boolean)) (by decide) rfl ?_
  intro p e s m args below meth c s₁ B hml hv
  obtain ⟨rfl, hsz, hw0, hK, hN, hZ, hC, hR, hL, hw1, hw2⟩ := hv
  have hx := B.exec
  have hb := B.bytes
  have hr := B.returns
  have hts := atoms_spec (ws := wq_X6_refuse) B.pre
  have hown : s.vm.findClass RX6 = some m.cls := findClass_of_methodNamed B.named
  have iRX6 : ∀ w ∈ u_ws RX6 TX6 6, w ∈ wq_X6_refuse := fun w h => List.mem_cons_of_mem _ (List.mem_append_right _ h)
  subst hsz
  have hp : Cp (dC, dI) ka ad ct (aC ad st s.heap.size) s.heap st s.heap [] := ⟨fun i a b => ⟨hw0 i a b, Or.inl ⟨i, a, b, rfl⟩⟩, va_S.rf, hw1, hw2⟩
  generalize hAe : aC ad st s.heap.size = A at hp hZ hC ⊢
  have hA : ∀ q : Nat, s.heap.size ≤ q → A q := fun q h => by rw [← hAe]; exact Or.inr h
  have hl := lv_entry ([.ref (ad h0), .int p0, .int p1]) (n := 3) (Nat.le_of_ble_eq_true rfl)
  rw [lg_entry_eq]
  generalize (lg_sl ([.ref (ad h0), .int p0, .int p1]) ++ List.replicate (3 - (lg_sl ([.ref (ad h0), .int p0, .int p1])).length) Slot.unset).toArray = ls at hl ⊢
  have hl : lv_has ls 3 [(0, .ref (ad h0)), (1, .int p0), (2, .int p1)] := hl
  unfold fX6_refuse at hf
  refine lv_aload_n hx hb dX6_refuse_0 rfl (lv_at hl 0 rfl) ?_
  refine lv_iload_n hx hb dX6_refuse_1 rfl (lv_at hl 1 rfl) ?_
  obtain ⟨hk_1, hf⟩ := gd_some hf
  refine q_pi (ci := 8) (C := RX6) (T := TX6) (N := 6) (k := 4) (v := p0) (ty := .int) hx hb hts iRX6 tyX6 tyX6_ok nmX6 hown hK hp hk_1 (by decide) rfl rfl (by decide) rfl (Or.inl (hts (.fieldLink RX6 30 "RecordBench$TextReader" "fault" "I") (by decide +kernel))) (fun _ h9 => h9) rfl (by decide +kernel) rfl rfl dX6_refuse_2 (fun H locs hp => ?_)
  obtain ⟨st_2, est_2, hf⟩ := nam_some hf
  rw [← est_2] at hp
  have hk_1 : qk st_2 h0 = 9 := by rw [est_2]; exact hk_1
  refine lv_aload_n hx hb dX6_refuse_5 rfl (lv_at hl 0 rfl) ?_
  refine lv_iload_n hx hb dX6_refuse_6 rfl (lv_at hl 2 rfl) ?_
  refine q_pi (ci := 8) (C := RX6) (T := TX6) (N := 6) (k := 5) (v := p1) (ty := .int) hx hb hts iRX6 tyX6 tyX6_ok nmX6 hown hK hp hk_1 (by decide) rfl rfl (by decide) rfl (Or.inl (hts (.fieldLink RX6 33 "RecordBench$TextReader" "place" "I") (by decide +kernel))) (fun _ h9 => h9) rfl (by decide +kernel) rfl rfl dX6_refuse_7 (fun H locs hp => ?_)
  obtain ⟨st_3, est_3, hf⟩ := nam_some hf
  rw [← est_3] at hp
  have hk_1 : qk st_3 h0 = 9 := by rw [est_3]; exact hk_1
  refine lv_iconst (v := 0) hx hb dX6_refuse_10 (by decide) ?_
  obtain ⟨e1, e2⟩ := pr_some hf
  exact W.zret (v := 0) hx hb hr rfl (fun t ht hW => ⟨⟨0, (), rfl, e1, Cp.end e2 hp ht⟩, hp.2.1.F ht⟩) hp.2.1.2.2 dX6_refuse_11
noncomputable def fX6_isLetter (h0 : Nat) (p0 : Int32) (st : CS) : Option (Int32 × CS) := gd (qk st h0 = 9) (ono (qP st h0 0) (fun a_2 => gd (qk st a_2 = 8) (bnd (fX5_byteAt a_2 p0 st) (fun r_7 st_5 => pif (r_7 < 97) (some ((0 : Int32), st_5)) (pif (122 < r_7) (some ((0 : Int32), st_5)) (some ((1 : Int32), st_5)))))))
set_option maxHeartbeats 1000000 in
theorem mo_X6_isLetter (h0 : Nat) (p0 : Int32) (st : CS) (r : Int32) (st' : CS) (hf : fX6_isLetter h0 p0 st = some (r, st')) : Ke st st' := by
  unfold fX6_isLetter at hf
  have hm : Ke st st := Ke.rf
  obtain ⟨hk_1, hf⟩ := gd_some hf
  obtain ⟨a_2, ha_3, hf⟩ := ono_some hf
  obtain ⟨hk_4, hf⟩ := gd_some hf
  obtain ⟨r_7, st_5, hc_6, hf⟩ := bnd_some hf
  have hm := hm.tr (mo_X5_byteAt a_2 p0 _ _ _ hc_6)
  rcases pif_or hf with ⟨c_8, hf⟩ | ⟨c_8, hf⟩
  · obtain ⟨e1, e2⟩ := pr_some hf
    exact e2 ▸ hm
  · rcases pif_or hf with ⟨c_9, hf⟩ | ⟨c_9, hf⟩
    · obtain ⟨e1, e2⟩ := pr_some hf
      exact e2 ▸ hm
    · obtain ⟨e1, e2⟩ := pr_some hf
      exact e2 ▸ hm
def wq_X6_isLetter : List Cond := .code yX6_isLetter cX6_isLetter 3 (some .boolean) :: (([.fieldLink RX6 9 "RecordBench$TextReader" "tape" "LRecordBench$Row;", .methodLink RX6 150 yX5_byteAt, .instanceMethod yX5_byteAt, .selects RX5 yX5_byteAt yX5_byteAt, .initialized RX5, .code yX5_byteAt cX5_byteAt 2 (some .int), .fieldLink RX5 21 "RecordBench$Row" "size" "I", .fieldLink RX5 15 "RecordBench$Row" "bytes" "[I"] : List Cond) ++ wsX60 ++ wsX50)
theorem gs_wq_X6_isLetter_wsX50 : GoodIn wq_X6_isLetter wsX50 := fun w h => ⟨List.mem_cons_of_mem _ (List.mem_append_right _ h), (gt_wsX50 w h).2⟩
set_option maxRecDepth 20000 in
theorem gq_X6_isLetter_X5_byteAt_150 : GoodIn wq_X6_isLetter (wsV RX6 150 RX5 yX5_byteAt wq_X5_byteAt) := goodIn_app (goodIn_r _ [2, 3, 4, 5] rfl rfl) (goodIn_ca (goodIn_r _ [6, 7, 8] rfl rfl) gs_wq_X6_isLetter_wsX50)
set_option maxHeartbeats 4000000 in
set_option maxRecDepth 100000 in
theorem c_X6_isLetter (l : Launch) (dC : Nat → ClassId) (dI : Nat → Nat → Nat) (ka ad : Nat → Nat) (ct : Nat → ClassId) (h0 : Nat) (p0 : Int32) (st st' : CS) (r : Int32) (hf : fX6_isLetter h0 p0 st = some (r, st')) (sz : Nat) : Met l yX6_isLetter wq_X6_isLetter ({ frames := 1, cells := 0, slots := 0, locals := 25 }) (va_Pc [.ref (ad h0), .int p0] (PrC (dC, dI) ct ka ad st sz)) (va_Qi (fun r' (_ : Unit) => r' = r) (fun _ => CB (dC, dI) ct ka ad st' (aC ad st sz)) (aC ad st sz)) 0 0 (aC ad st sz) := by
  refine Met.ofW (cc := cX6_isLetter) (maxL := 3) (ret := (some .boolean)) (by decide) rfl ?_
  intro p e s m args below meth c s₁ B hml hv
  obtain ⟨rfl, hsz, hw0, hK, hN, hZ, hC, hR, hL, hw1, hw2⟩ := hv
  have hx := B.exec
  have hb := B.bytes
  have hr := B.returns
  have hts := atoms_spec (ws := wq_X6_isLetter) B.pre
  have hown : s.vm.findClass RX6 = some m.cls := findClass_of_methodNamed B.named
  have iRX6 : ∀ w ∈ u_ws RX6 TX6 6, w ∈ wq_X6_isLetter := fun w h => List.mem_cons_of_mem _ (List.mem_append_left _ (List.mem_append_right _ h))
  subst hsz
  have hp : Cp (dC, dI) ka ad ct (aC ad st s.heap.size) s.heap st s.heap [] := ⟨fun i a b => ⟨hw0 i a b, Or.inl ⟨i, a, b, rfl⟩⟩, va_S.rf, hw1, hw2⟩
  generalize hAe : aC ad st s.heap.size = A at hp hZ hC ⊢
  have hA : ∀ q : Nat, s.heap.size ≤ q → A q := fun q h => by rw [← hAe]; exact Or.inr h
  have hl := lv_entry ([.ref (ad h0), .int p0]) (n := 3) (Nat.le_of_ble_eq_true rfl)
  rw [lg_entry_eq]
  generalize (lg_sl ([.ref (ad h0), .int p0]) ++ List.replicate (3 - (lg_sl ([.ref (ad h0), .int p0])).length) Slot.unset).toArray = ls at hl ⊢
  have hl : lv_has ls 3 [(0, .ref (ad h0)), (1, .int p0)] := hl
  unfold fX6_isLetter at hf
  refine lv_aload_n hx hb dX6_isLetter_0 rfl (lv_at hl 0 rfl) ?_
  obtain ⟨hk_1, hf⟩ := gd_some hf
  refine q_gp (ci := 8) (C := RX6) (T := TX6) (N := 6) (k := 0) hx hb hts iRX6 hown hK hp hk_1 (by decide) rfl rfl (by decide) rfl (Or.inl (hts (.fieldLink RX6 9 "RecordBench$TextReader" "tape" "LRecordBench$Row;") (by decide +kernel))) (fun _ h9 => h9) dX6_isLetter_1 ?_
  refine lv_iload_n hx hb dX6_isLetter_4 rfl (lv_at hl 1 rfl) ?_
  obtain ⟨a_2, ha_3, hf⟩ := ono_some hf
  refine o_at1 ha_3 ?_
  obtain ⟨hk_4, hf⟩ := gd_some hf
  obtain ⟨r_7, st_5, hc_6, hf⟩ := bnd_some hf
  refine q_ci hp hA (va_runV (As := [.int p0]) (rest := []) ⟨hx, hb, hml, hown, hts⟩ (c_X5_byteAt l dC dI ka ad ct a_2 p0 _ _ _ hc_6 _) (cwV 1 hts gq_X6_isLetter_X5_byteAt_150 rfl rfl rfl (by decide +kernel) ⟨Nat.le_of_ble_eq_true rfl, Nat.le_of_ble_eq_true rfl⟩) ⟨PrC.blind _, q_rv7 hK hp hC hk_4, q_pre hp hK hN hZ hC hR hL hA⟩ rfl rfl hl.1 rfl (lv_room (Nat.le_of_ble_eq_true rfl)) dX6_isLetter_5 ⟨Nat.le_of_ble_eq_true rfl, Nat.le_of_ble_eq_true rfl⟩) (fun H locs hp => ?_)
  have hk_1 : qk st_5 h0 = 9 := by rw [(mo_X5_byteAt a_2 p0 _ _ _ hc_6).2.2.1]; exact hk_1
  have hk_4 : qk st_5 a_2 = 8 := by rw [(mo_X5_byteAt a_2 p0 _ _ _ hc_6).2.2.1]; exact hk_4
  refine lv_istore_n (i := 2) (lv' := [(2, .int r_7), (0, .ref (ad h0)), (1, .int p0)]) hx hb dX6_isLetter_8 rfl hl (by decide) rfl (fun ls hl => ?_)
  refine lv_iload_n hx hb dX6_isLetter_9 rfl (lv_at hl 0 rfl) ?_
  refine lv_bipush (v := 97) hx hb dX6_isLetter_10 (by decide) ?_
  refine lv_icmp_lt (tgt := 25) hx hb dX6_isLetter_12 (by decide) (fun c_8 => ?_) (fun c_8 => ?_)
  · have hf := pif_t c_8 hf
    refine lv_iconst (v := 0) hx hb dX6_isLetter_25 (by decide) ?_
    obtain ⟨e1, e2⟩ := pr_some hf
    exact W.zret (v := 0) hx hb hr rfl (fun t ht hW => ⟨⟨0, (), rfl, e1, Cp.end e2 hp ht⟩, hp.2.1.F ht⟩) hp.2.1.2.2 dX6_isLetter_26
  · have hf := pif_f c_8 hf
    refine lv_iload_n hx hb dX6_isLetter_15 rfl (lv_at hl 0 rfl) ?_
    refine lv_bipush (v := 122) hx hb dX6_isLetter_16 (by decide) ?_
    refine lv_icmp_gt (tgt := 25) hx hb dX6_isLetter_18 (by decide) (fun c_9 => ?_) (fun c_9 => ?_)
    · have hf := pif_t c_9 hf
      refine lv_iconst (v := 0) hx hb dX6_isLetter_25 (by decide) ?_
      obtain ⟨e1, e2⟩ := pr_some hf
      exact W.zret (v := 0) hx hb hr rfl (fun t ht hW => ⟨⟨0, (), rfl, e1, Cp.end e2 hp ht⟩, hp.2.1.F ht⟩) hp.2.1.2.2 dX6_isLetter_26
    · have hf := pif_f c_9 hf
      refine lv_iconst (v := 1) hx hb dX6_isLetter_21 (by decide) ?_
      refine lv_goto (tgt := 26) hx hb dX6_isLetter_22 (by decide) ?_
      obtain ⟨e1, e2⟩ := pr_some hf
      exact W.zret (v := 1) hx hb hr rfl (fun t ht hW => ⟨⟨1, (), rfl, e1, Cp.end e2 hp ht⟩, hp.2.1.F ht⟩) hp.2.1.2.2 dX6_isLetter_26
noncomputable def fX6_isDigit (h0 : Nat) (p0 : Int32) (st : CS) : Option (Int32 × CS) := gd (qk st h0 = 9) (ono (qP st h0 0) (fun a_2 => gd (qk st a_2 = 8) (bnd (fX5_byteAt a_2 p0 st) (fun r_7 st_5 => pif (r_7 < 48) (some ((0 : Int32), st_5)) (pif (57 < r_7) (some ((0 : Int32), st_5)) (some ((1 : Int32), st_5)))))))
set_option maxHeartbeats 1000000 in
theorem mo_X6_isDigit (h0 : Nat) (p0 : Int32) (st : CS) (r : Int32) (st' : CS) (hf : fX6_isDigit h0 p0 st = some (r, st')) : Ke st st' := by
  unfold fX6_isDigit at hf
  have hm : Ke st st := Ke.rf
  obtain ⟨hk_1, hf⟩ := gd_some hf
  obtain ⟨a_2, ha_3, hf⟩ := ono_some hf
  obtain ⟨hk_4, hf⟩ := gd_some hf
  obtain ⟨r_7, st_5, hc_6, hf⟩ := bnd_some hf
  have hm := hm.tr (mo_X5_byteAt a_2 p0 _ _ _ hc_6)
  rcases pif_or hf with ⟨c_8, hf⟩ | ⟨c_8, hf⟩
  · obtain ⟨e1, e2⟩ := pr_some hf
    exact e2 ▸ hm
  · rcases pif_or hf with ⟨c_9, hf⟩ | ⟨c_9, hf⟩
    · obtain ⟨e1, e2⟩ := pr_some hf
      exact e2 ▸ hm
    · obtain ⟨e1, e2⟩ := pr_some hf
      exact e2 ▸ hm
def wq_X6_isDigit : List Cond := .code yX6_isDigit cX6_isDigit 3 (some .boolean) :: (([.fieldLink RX6 9 "RecordBench$TextReader" "tape" "LRecordBench$Row;", .methodLink RX6 150 yX5_byteAt, .instanceMethod yX5_byteAt, .selects RX5 yX5_byteAt yX5_byteAt, .initialized RX5, .code yX5_byteAt cX5_byteAt 2 (some .int), .fieldLink RX5 21 "RecordBench$Row" "size" "I", .fieldLink RX5 15 "RecordBench$Row" "bytes" "[I"] : List Cond) ++ wsX60 ++ wsX50)
theorem gs_wq_X6_isDigit_wsX50 : GoodIn wq_X6_isDigit wsX50 := fun w h => ⟨List.mem_cons_of_mem _ (List.mem_append_right _ h), (gt_wsX50 w h).2⟩
set_option maxRecDepth 20000 in
theorem gq_X6_isDigit_X5_byteAt_150 : GoodIn wq_X6_isDigit (wsV RX6 150 RX5 yX5_byteAt wq_X5_byteAt) := goodIn_app (goodIn_r _ [2, 3, 4, 5] rfl rfl) (goodIn_ca (goodIn_r _ [6, 7, 8] rfl rfl) gs_wq_X6_isDigit_wsX50)
set_option maxHeartbeats 4000000 in
set_option maxRecDepth 100000 in
theorem c_X6_isDigit (l : Launch) (dC : Nat → ClassId) (dI : Nat → Nat → Nat) (ka ad : Nat → Nat) (ct : Nat → ClassId) (h0 : Nat) (p0 : Int32) (st st' : CS) (r : Int32) (hf : fX6_isDigit h0 p0 st = some (r, st')) (sz : Nat) : Met l yX6_isDigit wq_X6_isDigit ({ frames := 1, cells := 0, slots := 0, locals := 25 }) (va_Pc [.ref (ad h0), .int p0] (PrC (dC, dI) ct ka ad st sz)) (va_Qi (fun r' (_ : Unit) => r' = r) (fun _ => CB (dC, dI) ct ka ad st' (aC ad st sz)) (aC ad st sz)) 0 0 (aC ad st sz) := by
  refine Met.ofW (cc := cX6_isDigit) (maxL := 3) (ret := (some .boolean)) (by decide) rfl ?_
  intro p e s m args below meth c s₁ B hml hv
  obtain ⟨rfl, hsz, hw0, hK, hN, hZ, hC, hR, hL, hw1, hw2⟩ := hv
  have hx := B.exec
  have hb := B.bytes
  have hr := B.returns
  have hts := atoms_spec (ws := wq_X6_isDigit) B.pre
  have hown : s.vm.findClass RX6 = some m.cls := findClass_of_methodNamed B.named
  have iRX6 : ∀ w ∈ u_ws RX6 TX6 6, w ∈ wq_X6_isDigit := fun w h => List.mem_cons_of_mem _ (List.mem_append_left _ (List.mem_append_right _ h))
  subst hsz
  have hp : Cp (dC, dI) ka ad ct (aC ad st s.heap.size) s.heap st s.heap [] := ⟨fun i a b => ⟨hw0 i a b, Or.inl ⟨i, a, b, rfl⟩⟩, va_S.rf, hw1, hw2⟩
  generalize hAe : aC ad st s.heap.size = A at hp hZ hC ⊢
  have hA : ∀ q : Nat, s.heap.size ≤ q → A q := fun q h => by rw [← hAe]; exact Or.inr h
  have hl := lv_entry ([.ref (ad h0), .int p0]) (n := 3) (Nat.le_of_ble_eq_true rfl)
  rw [lg_entry_eq]
  generalize (lg_sl ([.ref (ad h0), .int p0]) ++ List.replicate (3 - (lg_sl ([.ref (ad h0), .int p0])).length) Slot.unset).toArray = ls at hl ⊢
  have hl : lv_has ls 3 [(0, .ref (ad h0)), (1, .int p0)] := hl
  unfold fX6_isDigit at hf
  refine lv_aload_n hx hb dX6_isDigit_0 rfl (lv_at hl 0 rfl) ?_
  obtain ⟨hk_1, hf⟩ := gd_some hf
  refine q_gp (ci := 8) (C := RX6) (T := TX6) (N := 6) (k := 0) hx hb hts iRX6 hown hK hp hk_1 (by decide) rfl rfl (by decide) rfl (Or.inl (hts (.fieldLink RX6 9 "RecordBench$TextReader" "tape" "LRecordBench$Row;") (by decide +kernel))) (fun _ h9 => h9) dX6_isDigit_1 ?_
  refine lv_iload_n hx hb dX6_isDigit_4 rfl (lv_at hl 1 rfl) ?_
  obtain ⟨a_2, ha_3, hf⟩ := ono_some hf
  refine o_at1 ha_3 ?_
  obtain ⟨hk_4, hf⟩ := gd_some hf
  obtain ⟨r_7, st_5, hc_6, hf⟩ := bnd_some hf
  refine q_ci hp hA (va_runV (As := [.int p0]) (rest := []) ⟨hx, hb, hml, hown, hts⟩ (c_X5_byteAt l dC dI ka ad ct a_2 p0 _ _ _ hc_6 _) (cwV 1 hts gq_X6_isDigit_X5_byteAt_150 rfl rfl rfl (by decide +kernel) ⟨Nat.le_of_ble_eq_true rfl, Nat.le_of_ble_eq_true rfl⟩) ⟨PrC.blind _, q_rv7 hK hp hC hk_4, q_pre hp hK hN hZ hC hR hL hA⟩ rfl rfl hl.1 rfl (lv_room (Nat.le_of_ble_eq_true rfl)) dX6_isDigit_5 ⟨Nat.le_of_ble_eq_true rfl, Nat.le_of_ble_eq_true rfl⟩) (fun H locs hp => ?_)
  have hk_1 : qk st_5 h0 = 9 := by rw [(mo_X5_byteAt a_2 p0 _ _ _ hc_6).2.2.1]; exact hk_1
  have hk_4 : qk st_5 a_2 = 8 := by rw [(mo_X5_byteAt a_2 p0 _ _ _ hc_6).2.2.1]; exact hk_4
  refine lv_istore_n (i := 2) (lv' := [(2, .int r_7), (0, .ref (ad h0)), (1, .int p0)]) hx hb dX6_isDigit_8 rfl hl (by decide) rfl (fun ls hl => ?_)
  refine lv_iload_n hx hb dX6_isDigit_9 rfl (lv_at hl 0 rfl) ?_
  refine lv_bipush (v := 48) hx hb dX6_isDigit_10 (by decide) ?_
  refine lv_icmp_lt (tgt := 25) hx hb dX6_isDigit_12 (by decide) (fun c_8 => ?_) (fun c_8 => ?_)
  · have hf := pif_t c_8 hf
    refine lv_iconst (v := 0) hx hb dX6_isDigit_25 (by decide) ?_
    obtain ⟨e1, e2⟩ := pr_some hf
    exact W.zret (v := 0) hx hb hr rfl (fun t ht hW => ⟨⟨0, (), rfl, e1, Cp.end e2 hp ht⟩, hp.2.1.F ht⟩) hp.2.1.2.2 dX6_isDigit_26
  · have hf := pif_f c_8 hf
    refine lv_iload_n hx hb dX6_isDigit_15 rfl (lv_at hl 0 rfl) ?_
    refine lv_bipush (v := 57) hx hb dX6_isDigit_16 (by decide) ?_
    refine lv_icmp_gt (tgt := 25) hx hb dX6_isDigit_18 (by decide) (fun c_9 => ?_) (fun c_9 => ?_)
    · have hf := pif_t c_9 hf
      refine lv_iconst (v := 0) hx hb dX6_isDigit_25 (by decide) ?_
      obtain ⟨e1, e2⟩ := pr_some hf
      exact W.zret (v := 0) hx hb hr rfl (fun t ht hW => ⟨⟨0, (), rfl, e1, Cp.end e2 hp ht⟩, hp.2.1.F ht⟩) hp.2.1.2.2 dX6_isDigit_26
    · have hf := pif_f c_9 hf
      refine lv_iconst (v := 1) hx hb dX6_isDigit_21 (by decide) ?_
      refine lv_goto (tgt := 26) hx hb dX6_isDigit_22 (by decide) ?_
      obtain ⟨e1, e2⟩ := pr_some hf
      exact W.zret (v := 1) hx hb hr rfl (fun t ht hW => ⟨⟨1, (), rfl, e1, Cp.end e2 hp ht⟩, hp.2.1.F ht⟩) hp.2.1.2.2 dX6_isDigit_26
noncomputable def fX6_digitAt (h0 : Nat) (p0 : Int32) (st : CS) : Option (Int32 × CS) := gd (qk st h0 = 9) (ono (qP st h0 0) (fun a_2 => gd (qk st a_2 = 8) (bnd (fX5_byteAt a_2 p0 st) (fun r_7 st_5 => pif (r_7 < 48) (some (((-1) : Int32), st_5)) (pif (57 < r_7) (some (((-1) : Int32), st_5)) (some (r_7 - 48, st_5)))))))
set_option maxHeartbeats 1000000 in
theorem mo_X6_digitAt (h0 : Nat) (p0 : Int32) (st : CS) (r : Int32) (st' : CS) (hf : fX6_digitAt h0 p0 st = some (r, st')) : Ke st st' := by
  unfold fX6_digitAt at hf
  have hm : Ke st st := Ke.rf
  obtain ⟨hk_1, hf⟩ := gd_some hf
  obtain ⟨a_2, ha_3, hf⟩ := ono_some hf
  obtain ⟨hk_4, hf⟩ := gd_some hf
  obtain ⟨r_7, st_5, hc_6, hf⟩ := bnd_some hf
  have hm := hm.tr (mo_X5_byteAt a_2 p0 _ _ _ hc_6)
  rcases pif_or hf with ⟨c_8, hf⟩ | ⟨c_8, hf⟩
  · obtain ⟨e1, e2⟩ := pr_some hf
    exact e2 ▸ hm
  · rcases pif_or hf with ⟨c_9, hf⟩ | ⟨c_9, hf⟩
    · obtain ⟨e1, e2⟩ := pr_some hf
      exact e2 ▸ hm
    · obtain ⟨e1, e2⟩ := pr_some hf
      exact e2 ▸ hm
def wq_X6_digitAt : List Cond := .code yX6_digitAt cX6_digitAt 3 (some .int) :: (([.fieldLink RX6 9 "RecordBench$TextReader" "tape" "LRecordBench$Row;", .methodLink RX6 150 yX5_byteAt, .instanceMethod yX5_byteAt, .selects RX5 yX5_byteAt yX5_byteAt, .initialized RX5, .code yX5_byteAt cX5_byteAt 2 (some .int), .fieldLink RX5 21 "RecordBench$Row" "size" "I", .fieldLink RX5 15 "RecordBench$Row" "bytes" "[I"] : List Cond) ++ wsX60 ++ wsX50)
theorem gs_wq_X6_digitAt_wsX50 : GoodIn wq_X6_digitAt wsX50 := fun w h => ⟨List.mem_cons_of_mem _ (List.mem_append_right _ h), (gt_wsX50 w h).2⟩
set_option maxRecDepth 20000 in
theorem gq_X6_digitAt_X5_byteAt_150 : GoodIn wq_X6_digitAt (wsV RX6 150 RX5 yX5_byteAt wq_X5_byteAt) := goodIn_app (goodIn_r _ [2, 3, 4, 5] rfl rfl) (goodIn_ca (goodIn_r _ [6, 7, 8] rfl rfl) gs_wq_X6_digitAt_wsX50)
set_option maxHeartbeats 4000000 in
set_option maxRecDepth 100000 in
theorem c_X6_digitAt (l : Launch) (dC : Nat → ClassId) (dI : Nat → Nat → Nat) (ka ad : Nat → Nat) (ct : Nat → ClassId) (h0 : Nat) (p0 : Int32) (st st' : CS) (r : Int32) (hf : fX6_digitAt h0 p0 st = some (r, st')) (sz : Nat) : Met l yX6_digitAt wq_X6_digitAt ({ frames := 1, cells := 0, slots := 0, locals := 25 }) (va_Pc [.ref (ad h0), .int p0] (PrC (dC, dI) ct ka ad st sz)) (va_Qi (fun r' (_ : Unit) => r' = r) (fun _ => CB (dC, dI) ct ka ad st' (aC ad st sz)) (aC ad st sz)) 0 0 (aC ad st sz) := by
  refine Met.ofW (cc := cX6_digitAt) (maxL := 3) (ret := (some .int)) (by decide) rfl ?_
  intro p e s m args below meth c s₁ B hml hv
  obtain ⟨rfl, hsz, hw0, hK, hN, hZ, hC, hR, hL, hw1, hw2⟩ := hv
  have hx := B.exec
  have hb := B.bytes
  have hr := B.returns
  have hts := atoms_spec (ws := wq_X6_digitAt) B.pre
  have hown : s.vm.findClass RX6 = some m.cls := findClass_of_methodNamed B.named
  have iRX6 : ∀ w ∈ u_ws RX6 TX6 6, w ∈ wq_X6_digitAt := fun w h => List.mem_cons_of_mem _ (List.mem_append_left _ (List.mem_append_right _ h))
  subst hsz
  have hp : Cp (dC, dI) ka ad ct (aC ad st s.heap.size) s.heap st s.heap [] := ⟨fun i a b => ⟨hw0 i a b, Or.inl ⟨i, a, b, rfl⟩⟩, va_S.rf, hw1, hw2⟩
  generalize hAe : aC ad st s.heap.size = A at hp hZ hC ⊢
  have hA : ∀ q : Nat, s.heap.size ≤ q → A q := fun q h => by rw [← hAe]; exact Or.inr h
  have hl := lv_entry ([.ref (ad h0), .int p0]) (n := 3) (Nat.le_of_ble_eq_true rfl)
  rw [lg_entry_eq]
  generalize (lg_sl ([.ref (ad h0), .int p0]) ++ List.replicate (3 - (lg_sl ([.ref (ad h0), .int p0])).length) Slot.unset).toArray = ls at hl ⊢
  have hl : lv_has ls 3 [(0, .ref (ad h0)), (1, .int p0)] := hl
  unfold fX6_digitAt at hf
  refine lv_aload_n hx hb dX6_digitAt_0 rfl (lv_at hl 0 rfl) ?_
  obtain ⟨hk_1, hf⟩ := gd_some hf
  refine q_gp (ci := 8) (C := RX6) (T := TX6) (N := 6) (k := 0) hx hb hts iRX6 hown hK hp hk_1 (by decide) rfl rfl (by decide) rfl (Or.inl (hts (.fieldLink RX6 9 "RecordBench$TextReader" "tape" "LRecordBench$Row;") (by decide +kernel))) (fun _ h9 => h9) dX6_digitAt_1 ?_
  refine lv_iload_n hx hb dX6_digitAt_4 rfl (lv_at hl 1 rfl) ?_
  obtain ⟨a_2, ha_3, hf⟩ := ono_some hf
  refine o_at1 ha_3 ?_
  obtain ⟨hk_4, hf⟩ := gd_some hf
  obtain ⟨r_7, st_5, hc_6, hf⟩ := bnd_some hf
  refine q_ci hp hA (va_runV (As := [.int p0]) (rest := []) ⟨hx, hb, hml, hown, hts⟩ (c_X5_byteAt l dC dI ka ad ct a_2 p0 _ _ _ hc_6 _) (cwV 1 hts gq_X6_digitAt_X5_byteAt_150 rfl rfl rfl (by decide +kernel) ⟨Nat.le_of_ble_eq_true rfl, Nat.le_of_ble_eq_true rfl⟩) ⟨PrC.blind _, q_rv7 hK hp hC hk_4, q_pre hp hK hN hZ hC hR hL hA⟩ rfl rfl hl.1 rfl (lv_room (Nat.le_of_ble_eq_true rfl)) dX6_digitAt_5 ⟨Nat.le_of_ble_eq_true rfl, Nat.le_of_ble_eq_true rfl⟩) (fun H locs hp => ?_)
  have hk_1 : qk st_5 h0 = 9 := by rw [(mo_X5_byteAt a_2 p0 _ _ _ hc_6).2.2.1]; exact hk_1
  have hk_4 : qk st_5 a_2 = 8 := by rw [(mo_X5_byteAt a_2 p0 _ _ _ hc_6).2.2.1]; exact hk_4
  refine lv_istore_n (i := 2) (lv' := [(2, .int r_7), (0, .ref (ad h0)), (1, .int p0)]) hx hb dX6_digitAt_8 rfl hl (by decide) rfl (fun ls hl => ?_)
  refine lv_iload_n hx hb dX6_digitAt_9 rfl (lv_at hl 0 rfl) ?_
  refine lv_bipush (v := 48) hx hb dX6_digitAt_10 (by decide) ?_
  refine lv_icmp_lt (tgt := 28) hx hb dX6_digitAt_12 (by decide) (fun c_8 => ?_) (fun c_8 => ?_)
  · have hf := pif_t c_8 hf
    refine lv_iconst (v := (-1)) hx hb dX6_digitAt_28 (by decide) ?_
    obtain ⟨e1, e2⟩ := pr_some hf
    exact W.iret (v := (-1)) hx hb hr (fun t ht hW => ⟨⟨(-1), (), rfl, e1, Cp.end e2 hp ht⟩, hp.2.1.F ht⟩) hp.2.1.2.2 dX6_digitAt_29
  · have hf := pif_f c_8 hf
    refine lv_iload_n hx hb dX6_digitAt_15 rfl (lv_at hl 0 rfl) ?_
    refine lv_bipush (v := 57) hx hb dX6_digitAt_16 (by decide) ?_
    refine lv_icmp_gt (tgt := 28) hx hb dX6_digitAt_18 (by decide) (fun c_9 => ?_) (fun c_9 => ?_)
    · have hf := pif_t c_9 hf
      refine lv_iconst (v := (-1)) hx hb dX6_digitAt_28 (by decide) ?_
      obtain ⟨e1, e2⟩ := pr_some hf
      exact W.iret (v := (-1)) hx hb hr (fun t ht hW => ⟨⟨(-1), (), rfl, e1, Cp.end e2 hp ht⟩, hp.2.1.F ht⟩) hp.2.1.2.2 dX6_digitAt_29
    · have hf := pif_f c_9 hf
      refine lv_iload_n hx hb dX6_digitAt_21 rfl (lv_at hl 0 rfl) ?_
      refine lv_bipush (v := 48) hx hb dX6_digitAt_22 (by decide) ?_
      refine lv_isub hx hb dX6_digitAt_24 ?_
      refine lv_goto (tgt := 29) hx hb dX6_digitAt_25 (by decide) ?_
      obtain ⟨e1, e2⟩ := pr_some hf
      exact W.iret (v := r_7 - 48) hx hb hr (fun t ht hW => ⟨⟨r_7 - 48, (), rfl, e1, Cp.end e2 hp ht⟩, hp.2.1.F ht⟩) hp.2.1.2.2 dX6_digitAt_29
noncomputable def fX6_isBlank (p0 : Int32) (st : CS) : Option (Int32 × CS) := pif (p0 = 10) (some ((1 : Int32), st)) (pif (p0 = 32) (some ((1 : Int32), st)) (some ((0 : Int32), st)))
set_option maxHeartbeats 1000000 in
theorem mo_X6_isBlank (p0 : Int32) (st : CS) (r : Int32) (st' : CS) (hf : fX6_isBlank p0 st = some (r, st')) : Ke st st' := by
  unfold fX6_isBlank at hf
  have hm : Ke st st := Ke.rf
  rcases pif_or hf with ⟨c_1, hf⟩ | ⟨c_1, hf⟩
  · obtain ⟨e1, e2⟩ := pr_some hf
    exact e2 ▸ hm
  · rcases pif_or hf with ⟨c_2, hf⟩ | ⟨c_2, hf⟩
    · obtain ⟨e1, e2⟩ := pr_some hf
      exact e2 ▸ hm
    · obtain ⟨e1, e2⟩ := pr_some hf
      exact e2 ▸ hm
def wq_X6_isBlank : List Cond := .code yX6_isBlank cX6_isBlank 1 (some .boolean) :: ([])
set_option maxHeartbeats 4000000 in
set_option maxRecDepth 100000 in
theorem c_X6_isBlank (l : Launch) (dC : Nat → ClassId) (dI : Nat → Nat → Nat) (ka ad : Nat → Nat) (ct : Nat → ClassId) (p0 : Int32) (st st' : CS) (r : Int32) (hf : fX6_isBlank p0 st = some (r, st')) (sz : Nat) : Met l yX6_isBlank wq_X6_isBlank ({ frames := 0, cells := 0, slots := 0, locals := 0 }) (va_Pc [.int p0] (PrC (dC, dI) ct ka ad st sz)) (va_Qi (fun r' (_ : Unit) => r' = r) (fun _ => CB (dC, dI) ct ka ad st' (aC ad st sz)) (aC ad st sz)) 0 0 (aC ad st sz) := by
  refine Met.ofW (cc := cX6_isBlank) (maxL := 1) (ret := (some .boolean)) (by decide) rfl ?_
  intro p e s m args below meth c s₁ B hml hv
  obtain ⟨rfl, hsz, hw0, hK, hN, hZ, hC, hR, hL, hw1, hw2⟩ := hv
  have hx := B.exec
  have hb := B.bytes
  have hr := B.returns
  have hts := atoms_spec (ws := wq_X6_isBlank) B.pre
  have hown : s.vm.findClass RX6 = some m.cls := findClass_of_methodNamed B.named
  subst hsz
  have hp : Cp (dC, dI) ka ad ct (aC ad st s.heap.size) s.heap st s.heap [] := ⟨fun i a b => ⟨hw0 i a b, Or.inl ⟨i, a, b, rfl⟩⟩, va_S.rf, hw1, hw2⟩
  generalize hAe : aC ad st s.heap.size = A at hp hZ hC ⊢
  have hA : ∀ q : Nat, s.heap.size ≤ q → A q := fun q h => by rw [← hAe]; exact Or.inr h
  have hl := lv_entry ([.int p0]) (n := 1) (Nat.le_of_ble_eq_true rfl)
  rw [lg_entry_eq]
  generalize (lg_sl ([.int p0]) ++ List.replicate (1 - (lg_sl ([.int p0])).length) Slot.unset).toArray = ls at hl ⊢
  have hl : lv_has ls 1 [(0, .int p0)] := hl
  unfold fX6_isBlank at hf
  refine lv_iload_n hx hb dX6_isBlank_0 rfl (lv_at hl 0 rfl) ?_
  refine lv_bipush (v := 10) hx hb dX6_isBlank_1 (by decide) ?_
  refine lv_icmp_eq (tgt := 12) hx hb dX6_isBlank_3 (by decide) (fun c_1 => ?_) (fun c_1 => ?_)
  · have hf := pif_t c_1 hf
    refine lv_iconst (v := 1) hx hb dX6_isBlank_12 (by decide) ?_
    refine lv_goto (tgt := 17) hx hb dX6_isBlank_13 (by decide) ?_
    obtain ⟨e1, e2⟩ := pr_some hf
    exact W.zret (v := 1) hx hb hr rfl (fun t ht hW => ⟨⟨1, (), rfl, e1, Cp.end e2 hp ht⟩, hp.2.1.F ht⟩) hp.2.1.2.2 dX6_isBlank_17
  · have hf := pif_f c_1 hf
    refine lv_iload_n hx hb dX6_isBlank_6 rfl (lv_at hl 0 rfl) ?_
    refine lv_bipush (v := 32) hx hb dX6_isBlank_7 (by decide) ?_
    refine lv_icmp_ne (tgt := 16) hx hb dX6_isBlank_9 (by decide) (fun c_2 => ?_) (fun c_2 => ?_)
    · have hf := pif_f c_2 hf
      refine lv_iconst (v := 0) hx hb dX6_isBlank_16 (by decide) ?_
      obtain ⟨e1, e2⟩ := pr_some hf
      exact W.zret (v := 0) hx hb hr rfl (fun t ht hW => ⟨⟨0, (), rfl, e1, Cp.end e2 hp ht⟩, hp.2.1.F ht⟩) hp.2.1.2.2 dX6_isBlank_17
    · have hf := pif_t c_2 hf
      refine lv_iconst (v := 1) hx hb dX6_isBlank_12 (by decide) ?_
      refine lv_goto (tgt := 17) hx hb dX6_isBlank_13 (by decide) ?_
      obtain ⟨e1, e2⟩ := pr_some hf
      exact W.zret (v := 1) hx hb hr rfl (fun t ht hW => ⟨⟨1, (), rfl, e1, Cp.end e2 hp ht⟩, hp.2.1.F ht⟩) hp.2.1.2.2 dX6_isBlank_17
noncomputable def fX6_isQuotable (p0 : Int32) (st : CS) : Option (Int32 × CS) := bnd (fX5_isTextByte p0 st) (fun r_3 st_1 => pif (r_3 = 0) (some ((0 : Int32), st_1)) (pif (p0 = 34) (some ((0 : Int32), st_1)) (some ((1 : Int32), st_1))))
set_option maxHeartbeats 1000000 in
theorem mo_X6_isQuotable (p0 : Int32) (st : CS) (r : Int32) (st' : CS) (hf : fX6_isQuotable p0 st = some (r, st')) : Ke st st' := by
  unfold fX6_isQuotable at hf
  have hm : Ke st st := Ke.rf
  obtain ⟨r_3, st_1, hc_2, hf⟩ := bnd_some hf
  have hm := hm.tr (mo_X5_isTextByte p0 _ _ _ hc_2)
  rcases pif_or hf with ⟨c_4, hf⟩ | ⟨c_4, hf⟩
  · obtain ⟨e1, e2⟩ := pr_some hf
    exact e2 ▸ hm
  · rcases pif_or hf with ⟨c_5, hf⟩ | ⟨c_5, hf⟩
    · obtain ⟨e1, e2⟩ := pr_some hf
      exact e2 ▸ hm
    · obtain ⟨e1, e2⟩ := pr_some hf
      exact e2 ▸ hm
def wq_X6_isQuotable : List Cond := .code yX6_isQuotable cX6_isQuotable 1 (some .boolean) :: ([.methodLink RX6 192 yX5_isTextByte, .static yX5_isTextByte, .initialized RX5, .code yX5_isTextByte cX5_isTextByte 1 (some .boolean)])
set_option maxRecDepth 20000 in
theorem gq_X6_isQuotable_X5_isTextByte_192 : GoodIn wq_X6_isQuotable (va_wsS RX6 192 yX5_isTextByte wq_X5_isTextByte) := goodIn_app (goodIn_r _ [1, 2, 3] rfl rfl) (goodIn_r _ [4] rfl rfl)
set_option maxHeartbeats 4000000 in
set_option maxRecDepth 100000 in
theorem c_X6_isQuotable (l : Launch) (dC : Nat → ClassId) (dI : Nat → Nat → Nat) (ka ad : Nat → Nat) (ct : Nat → ClassId) (p0 : Int32) (st st' : CS) (r : Int32) (hf : fX6_isQuotable p0 st = some (r, st')) (sz : Nat) : Met l yX6_isQuotable wq_X6_isQuotable ({ frames := 1, cells := 0, slots := 0, locals := 24 }) (va_Pc [.int p0] (PrC (dC, dI) ct ka ad st sz)) (va_Qi (fun r' (_ : Unit) => r' = r) (fun _ => CB (dC, dI) ct ka ad st' (aC ad st sz)) (aC ad st sz)) 0 0 (aC ad st sz) := by
  refine Met.ofW (cc := cX6_isQuotable) (maxL := 1) (ret := (some .boolean)) (by decide) rfl ?_
  intro p e s m args below meth c s₁ B hml hv
  obtain ⟨rfl, hsz, hw0, hK, hN, hZ, hC, hR, hL, hw1, hw2⟩ := hv
  have hx := B.exec
  have hb := B.bytes
  have hr := B.returns
  have hts := atoms_spec (ws := wq_X6_isQuotable) B.pre
  have hown : s.vm.findClass RX6 = some m.cls := findClass_of_methodNamed B.named
  subst hsz
  have hp : Cp (dC, dI) ka ad ct (aC ad st s.heap.size) s.heap st s.heap [] := ⟨fun i a b => ⟨hw0 i a b, Or.inl ⟨i, a, b, rfl⟩⟩, va_S.rf, hw1, hw2⟩
  generalize hAe : aC ad st s.heap.size = A at hp hZ hC ⊢
  have hA : ∀ q : Nat, s.heap.size ≤ q → A q := fun q h => by rw [← hAe]; exact Or.inr h
  have hl := lv_entry ([.int p0]) (n := 1) (Nat.le_of_ble_eq_true rfl)
  rw [lg_entry_eq]
  generalize (lg_sl ([.int p0]) ++ List.replicate (1 - (lg_sl ([.int p0])).length) Slot.unset).toArray = ls at hl ⊢
  have hl : lv_has ls 1 [(0, .int p0)] := hl
  unfold fX6_isQuotable at hf
  refine lv_iload_n hx hb dX6_isQuotable_0 rfl (lv_at hl 0 rfl) ?_
  obtain ⟨r_3, st_1, hc_2, hf⟩ := bnd_some hf
  refine q_ci hp hA (va_runS (As := [.int p0]) (rest := []) ⟨hx, hb, hml, hown, hts⟩ (c_X5_isTextByte l dC dI ka ad ct p0 _ _ _ hc_2 _) (va_cwS 1 hts gq_X6_isQuotable_X5_isTextByte_192 rfl rfl rfl (by decide +kernel) ⟨Nat.le_of_ble_eq_true rfl, Nat.le_of_ble_eq_true rfl⟩) ⟨PrC.blind _, q_pre hp hK hN hZ hC hR hL hA⟩ rfl rfl hl.1 rfl (lv_room (Nat.le_of_ble_eq_true rfl)) dX6_isQuotable_1 ⟨Nat.le_of_ble_eq_true rfl, Nat.le_of_ble_eq_true rfl⟩) (fun H locs hp => ?_)
  refine lv_if_eq (tgt := 17) hx hb dX6_isQuotable_4 (by decide) (fun c_4 => ?_) (fun c_4 => ?_)
  · have hf := pif_t c_4 hf
    refine lv_iconst (v := 0) hx hb dX6_isQuotable_17 (by decide) ?_
    obtain ⟨e1, e2⟩ := pr_some hf
    exact W.zret (v := 0) hx hb hr rfl (fun t ht hW => ⟨⟨0, (), rfl, e1, Cp.end e2 hp ht⟩, hp.2.1.F ht⟩) hp.2.1.2.2 dX6_isQuotable_18
  · have hf := pif_f c_4 hf
    refine lv_iload_n hx hb dX6_isQuotable_7 rfl (lv_at hl 0 rfl) ?_
    refine lv_bipush (v := 34) hx hb dX6_isQuotable_8 (by decide) ?_
    refine lv_icmp_eq (tgt := 17) hx hb dX6_isQuotable_10 (by decide) (fun c_5 => ?_) (fun c_5 => ?_)
    · have hf := pif_t c_5 hf
      refine lv_iconst (v := 0) hx hb dX6_isQuotable_17 (by decide) ?_
      obtain ⟨e1, e2⟩ := pr_some hf
      exact W.zret (v := 0) hx hb hr rfl (fun t ht hW => ⟨⟨0, (), rfl, e1, Cp.end e2 hp ht⟩, hp.2.1.F ht⟩) hp.2.1.2.2 dX6_isQuotable_18
    · have hf := pif_f c_5 hf
      refine lv_iconst (v := 1) hx hb dX6_isQuotable_13 (by decide) ?_
      refine lv_goto (tgt := 18) hx hb dX6_isQuotable_14 (by decide) ?_
      obtain ⟨e1, e2⟩ := pr_some hf
      exact W.zret (v := 1) hx hb hr rfl (fun t ht hW => ⟨⟨1, (), rfl, e1, Cp.end e2 hp ht⟩, hp.2.1.F ht⟩) hp.2.1.2.2 dX6_isQuotable_18
noncomputable def fX6_skipBlanks_7 (h0 : Nat)  : Nat → Int32 → CS → Option (CS)
  | 0 => fun _ _ => none
  | n + 1 => fun l2 gs => gd (qk gs h0 = 9) (ono (qP gs h0 0) (fun a_2 => gd (qk gs a_2 = 8) (bnd (fX5_size a_2 gs) (fun r_7 st_5 => pif (r_7 ≤ l2) (some st_5) (ono (qP st_5 h0 0) (fun a_9 => gd (qk st_5 a_9 = 8) (bnd (fX5_byteAt a_9 l2 st_5) (fun r_14 st_12 => bnd (fX6_isBlank r_14 st_12) (fun r_17 st_15 => pif (r_17 = 0) (some st_15) (nam (wI st_15 h0 3 ((qI st_15 h0 3) + 1)) (fun st_19 => nam (l2 + 1) (fun v_20 => (fX6_skipBlanks_7 h0 n) v_20 st_19))))))))))))
theorem fX6_skipBlanks_7_z (h0 : Nat)  (l2 : Int32) (gs : CS) : fX6_skipBlanks_7 h0 0 l2 gs = none := rfl
theorem fX6_skipBlanks_7_s (h0 : Nat)  (n : Nat) (l2 : Int32) (gs : CS) : fX6_skipBlanks_7 h0 (n + 1) l2 gs = gd (qk gs h0 = 9) (ono (qP gs h0 0) (fun a_2 => gd (qk gs a_2 = 8) (bnd (fX5_size a_2 gs) (fun r_7 st_5 => pif (r_7 ≤ l2) (some st_5) (ono (qP st_5 h0 0) (fun a_9 => gd (qk st_5 a_9 = 8) (bnd (fX5_byteAt a_9 l2 st_5) (fun r_14 st_12 => bnd (fX6_isBlank r_14 st_12) (fun r_17 st_15 => pif (r_17 = 0) (some st_15) (nam (wI st_15 h0 3 ((qI st_15 h0 3) + 1)) (fun st_19 => nam (l2 + 1) (fun v_20 => (fX6_skipBlanks_7 h0 n) v_20 st_19)))))))))))) := rfl
set_option maxHeartbeats 1000000 in
theorem mo_X6_skipBlanks_7 (h0 : Nat)   : ∀ (n : Nat) (l2 : Int32) (gs : CS) (st' : CS), fX6_skipBlanks_7 h0 n l2 gs = some st' → Ke gs st' := by
  intro n
  induction n with
  | zero =>
    intro l2 gs st' hf
    rw [fX6_skipBlanks_7_z] at hf
    cases hf
  | succ n ih =>
    intro l2 gs st' hf
    rw [fX6_skipBlanks_7_s] at hf
    have hm : Ke gs gs := Ke.rf
    obtain ⟨hk_1, hf⟩ := gd_some hf
    obtain ⟨a_2, ha_3, hf⟩ := ono_some hf
    obtain ⟨hk_4, hf⟩ := gd_some hf
    obtain ⟨r_7, st_5, hc_6, hf⟩ := bnd_some hf
    have hm := hm.tr (mo_X5_size a_2 _ _ _ hc_6)
    rcases pif_or hf with ⟨c_8, hf⟩ | ⟨c_8, hf⟩
    · have e2 := Option.some.inj hf
      exact e2 ▸ hm
    · obtain ⟨a_9, ha_10, hf⟩ := ono_some hf
      obtain ⟨hk_11, hf⟩ := gd_some hf
      obtain ⟨r_14, st_12, hc_13, hf⟩ := bnd_some hf
      have hm := hm.tr (mo_X5_byteAt a_9 l2 _ _ _ hc_13)
      obtain ⟨r_17, st_15, hc_16, hf⟩ := bnd_some hf
      have hm := hm.tr (mo_X6_isBlank r_14 _ _ _ hc_16)
      rcases pif_or hf with ⟨c_18, hf⟩ | ⟨c_18, hf⟩
      · have e2 := Option.some.inj hf
        exact e2 ▸ hm
      · obtain ⟨st_19, est_19, hf⟩ := nam_some hf
        have hm := hm.wI est_19
        obtain ⟨v_20, ev_20, hf⟩ := nam_some hf
        exact hm.tr (ih v_20 st_19 _ hf)
noncomputable def fX6_skipBlanks (h0 : Nat) (st : CS) : Option (CS) := gd (qk st h0 = 9) (nam (qI st h0 3) (fun v_22 => fX6_skipBlanks_7 h0 fuel v_22 st))
set_option maxHeartbeats 1000000 in
theorem mo_X6_skipBlanks (h0 : Nat) (st : CS) (st' : CS) (hf : fX6_skipBlanks h0 st = some st') : Ke st st' := by
  unfold fX6_skipBlanks at hf
  have hm : Ke st st := Ke.rf
  obtain ⟨hk_21, hf⟩ := gd_some hf
  obtain ⟨v_22, ev_22, hf⟩ := nam_some hf
  exact hm.tr (mo_X6_skipBlanks_7 h0 fuel v_22 st _ hf)
def wq_X6_skipBlanks : List Cond := .code yX6_skipBlanks cX6_skipBlanks 3 none :: (([.fieldLink RX6 26 "RecordBench$TextReader" "pos" "I", .fieldLink RX6 9 "RecordBench$TextReader" "tape" "LRecordBench$Row;", .methodLink RX6 42 yX5_size, .instanceMethod yX5_size, .selects RX5 yX5_size yX5_size, .initialized RX5, .methodLink RX6 150 yX5_byteAt, .instanceMethod yX5_byteAt, .selects RX5 yX5_byteAt yX5_byteAt, .methodLink RX6 189 yX6_isBlank, .static yX6_isBlank, .initialized RX6, .code yX5_size cX5_size 1 (some .int), .fieldLink RX5 21 "RecordBench$Row" "size" "I", .code yX5_byteAt cX5_byteAt 2 (some .int), .fieldLink RX5 15 "RecordBench$Row" "bytes" "[I", .code yX6_isBlank cX6_isBlank 1 (some .boolean)] : List Cond) ++ wsX60 ++ wsX50)
theorem gs_wq_X6_skipBlanks_wsX50 : GoodIn wq_X6_skipBlanks wsX50 := fun w h => ⟨List.mem_cons_of_mem _ (List.mem_append_right _ h), (gt_wsX50 w h).2⟩
set_option maxRecDepth 20000 in
theorem gq_X6_skipBlanks_X5_size_42 : GoodIn wq_X6_skipBlanks (wsV RX6 42 RX5 yX5_size wq_X5_size) := goodIn_app (goodIn_r _ [3, 4, 5, 6] rfl rfl) (goodIn_ca (goodIn_r _ [13, 14] rfl rfl) gs_wq_X6_skipBlanks_wsX50)
set_option maxRecDepth 20000 in
theorem gq_X6_skipBlanks_X5_byteAt_150 : GoodIn wq_X6_skipBlanks (wsV RX6 150 RX5 yX5_byteAt wq_X5_byteAt) := goodIn_app (goodIn_r _ [7, 8, 9, 6] rfl rfl) (goodIn_ca (goodIn_r _ [15, 14, 16] rfl rfl) gs_wq_X6_skipBlanks_wsX50)
set_option maxRecDepth 20000 in
theorem gq_X6_skipBlanks_X6_isBlank_189 : GoodIn wq_X6_skipBlanks (va_wsS RX6 189 yX6_isBlank wq_X6_isBlank) := goodIn_app (goodIn_r _ [10, 11, 12] rfl rfl) (goodIn_r _ [17] rfl rfl)
set_option maxHeartbeats 4000000 in
set_option maxRecDepth 100000 in
theorem c_X6_skipBlanks (l : Launch) (dC : Nat → ClassId) (dI : Nat → Nat → Nat) (ka ad : Nat → Nat) (ct : Nat → ClassId) (h0 : Nat) (st st' : CS) (hf : fX6_skipBlanks h0 st = some st') (sz : Nat) : Met l yX6_skipBlanks wq_X6_skipBlanks ({ frames := 1, cells := 0, slots := 0, locals := 25 }) (va_Pc [.ref (ad h0)] (PrC (dC, dI) ct ka ad st sz)) (va_Qv (fun (_ : Unit) => True) (fun _ => CB (dC, dI) ct ka ad st' (aC ad st sz)) (aC ad st sz)) 0 0 (aC ad st sz) := by
  refine Met.ofW (cc := cX6_skipBlanks) (maxL := 3) (ret := none) (by decide) rfl ?_
  intro p e s m args below meth c s₁ B hml hv
  obtain ⟨rfl, hsz, hw0, hK, hN, hZ, hC, hR, hL, hw1, hw2⟩ := hv
  have hx := B.exec
  have hb := B.bytes
  have hr := B.returns
  have hts := atoms_spec (ws := wq_X6_skipBlanks) B.pre
  have hown : s.vm.findClass RX6 = some m.cls := findClass_of_methodNamed B.named
  have iRX6 : ∀ w ∈ u_ws RX6 TX6 6, w ∈ wq_X6_skipBlanks := fun w h => List.mem_cons_of_mem _ (List.mem_append_left _ (List.mem_append_right _ h))
  subst hsz
  have hp : Cp (dC, dI) ka ad ct (aC ad st s.heap.size) s.heap st s.heap [] := ⟨fun i a b => ⟨hw0 i a b, Or.inl ⟨i, a, b, rfl⟩⟩, va_S.rf, hw1, hw2⟩
  generalize hAe : aC ad st s.heap.size = A at hp hZ hC ⊢
  have hA : ∀ q : Nat, s.heap.size ≤ q → A q := fun q h => by rw [← hAe]; exact Or.inr h
  have hl := lv_entry ([.ref (ad h0)]) (n := 3) (Nat.le_of_ble_eq_true rfl)
  rw [lg_entry_eq]
  generalize (lg_sl ([.ref (ad h0)]) ++ List.replicate (3 - (lg_sl ([.ref (ad h0)])).length) Slot.unset).toArray = ls at hl ⊢
  have hl : lv_has ls 3 [(0, .ref (ad h0))] := hl
  refine W_lp (fun n7 (u : Int32 × CS) H locs ls => match u with | (l2, gs) => fX6_skipBlanks_7 h0 n7 l2 gs = some st' ∧ Cp (dC, dI) ka ad ct A s.heap gs H locs ∧ lv_has ls 3 [(0, .ref (ad h0)), (2, .int l2)]) (fun (u : Int32 × CS) ls => match u with | (l2, gs) => F0 m 7 ls []) ?_ ?_ (fun J7 => ?_)
  · intro u H locs ls hu
    obtain ⟨l2, gs⟩ := u
    obtain ⟨hf, hp, hl⟩ := hu
    rw [fX6_skipBlanks_7_z] at hf
    cases hf
  · intro n7 ih7 u H locs ls hu
    obtain ⟨l2, gs⟩ := u
    obtain ⟨hf, hp, hl⟩ := hu
    show W p l e _ s m _ below meth c _ _ _ _ _ (F0 m 7 ls [])
    rw [fX6_skipBlanks_7_s] at hf
    refine lv_iload_n hx hb dX6_skipBlanks_7 rfl (lv_at hl 1 rfl) ?_
    refine lv_aload_n hx hb dX6_skipBlanks_8 rfl (lv_at hl 0 rfl) ?_
    obtain ⟨hk_1, hf⟩ := gd_some hf
    refine q_gp (ci := 8) (C := RX6) (T := TX6) (N := 6) (k := 0) hx hb hts iRX6 hown hK hp hk_1 (by decide) rfl rfl (by decide) rfl (Or.inl (hts (.fieldLink RX6 9 "RecordBench$TextReader" "tape" "LRecordBench$Row;") (by decide +kernel))) (fun _ h9 => h9) dX6_skipBlanks_9 ?_
    obtain ⟨a_2, ha_3, hf⟩ := ono_some hf
    refine o_at ha_3 ?_
    obtain ⟨hk_4, hf⟩ := gd_some hf
    obtain ⟨r_7, st_5, hc_6, hf⟩ := bnd_some hf
    refine q_ci hp hA (va_runV (As := []) (rest := [.int l2]) ⟨hx, hb, hml, hown, hts⟩ (c_X5_size l dC dI ka ad ct a_2 _ _ _ hc_6 _) (cwV 0 hts gq_X6_skipBlanks_X5_size_42 rfl rfl rfl (by decide +kernel) ⟨Nat.le_of_ble_eq_true rfl, Nat.le_of_ble_eq_true rfl⟩) ⟨PrC.blind _, q_rv7 hK hp hC hk_4, q_pre hp hK hN hZ hC hR hL hA⟩ rfl rfl hl.1 rfl (lv_room (Nat.le_of_ble_eq_true rfl)) dX6_skipBlanks_12 ⟨Nat.le_of_ble_eq_true rfl, Nat.le_of_ble_eq_true rfl⟩) (fun H locs hp => ?_)
    have hk_1 : qk st_5 h0 = 9 := by rw [(mo_X5_size a_2 _ _ _ hc_6).2.2.1]; exact hk_1
    have hk_4 : qk st_5 a_2 = 8 := by rw [(mo_X5_size a_2 _ _ _ hc_6).2.2.1]; exact hk_4
    refine lv_icmp_ge (tgt := 48) hx hb dX6_skipBlanks_15 (by decide) (fun c_8 => ?_) (fun c_8 => ?_)
    · have hf := pif_t c_8 hf
      have e2 := Option.some.inj hf
      exact W.vret hx hb hr (fun t ht hW => ⟨⟨(), rfl, trivial, Cp.end e2 hp ht⟩, hp.2.1.F ht⟩) hp.2.1.2.2 dX6_skipBlanks_48
    · have hf := pif_f c_8 hf
      refine lv_aload_n hx hb dX6_skipBlanks_18 rfl (lv_at hl 0 rfl) ?_
      refine q_gp (ci := 8) (C := RX6) (T := TX6) (N := 6) (k := 0) hx hb hts iRX6 hown hK hp hk_1 (by decide) rfl rfl (by decide) rfl (Or.inl (hts (.fieldLink RX6 9 "RecordBench$TextReader" "tape" "LRecordBench$Row;") (by decide +kernel))) (fun _ h9 => h9) dX6_skipBlanks_19 ?_
      refine lv_iload_n hx hb dX6_skipBlanks_22 rfl (lv_at hl 1 rfl) ?_
      obtain ⟨a_9, ha_10, hf⟩ := ono_some hf
      refine o_at1 ha_10 ?_
      obtain ⟨hk_11, hf⟩ := gd_some hf
      obtain ⟨r_14, st_12, hc_13, hf⟩ := bnd_some hf
      refine q_ci hp hA (va_runV (As := [.int l2]) (rest := []) ⟨hx, hb, hml, hown, hts⟩ (c_X5_byteAt l dC dI ka ad ct a_9 l2 _ _ _ hc_13 _) (cwV 1 hts gq_X6_skipBlanks_X5_byteAt_150 rfl rfl rfl (by decide +kernel) ⟨Nat.le_of_ble_eq_true rfl, Nat.le_of_ble_eq_true rfl⟩) ⟨PrC.blind _, q_rv7 hK hp hC hk_11, q_pre hp hK hN hZ hC hR hL hA⟩ rfl rfl hl.1 rfl (lv_room (Nat.le_of_ble_eq_true rfl)) dX6_skipBlanks_23 ⟨Nat.le_of_ble_eq_true rfl, Nat.le_of_ble_eq_true rfl⟩) (fun H locs hp => ?_)
      have hk_1 : qk st_12 h0 = 9 := by rw [(mo_X5_byteAt a_9 l2 _ _ _ hc_13).2.2.1]; exact hk_1
      have hk_4 : qk st_12 a_2 = 8 := by rw [(mo_X5_byteAt a_9 l2 _ _ _ hc_13).2.2.1]; exact hk_4
      have hk_11 : qk st_12 a_9 = 8 := by rw [(mo_X5_byteAt a_9 l2 _ _ _ hc_13).2.2.1]; exact hk_11
      obtain ⟨r_17, st_15, hc_16, hf⟩ := bnd_some hf
      refine q_ci hp hA (va_runS (As := [.int r_14]) (rest := []) ⟨hx, hb, hml, hown, hts⟩ (c_X6_isBlank l dC dI ka ad ct r_14 _ _ _ hc_16 _) (va_cwS 1 hts gq_X6_skipBlanks_X6_isBlank_189 rfl rfl rfl (by decide +kernel) ⟨Nat.le_of_ble_eq_true rfl, Nat.le_of_ble_eq_true rfl⟩) ⟨PrC.blind _, q_pre hp hK hN hZ hC hR hL hA⟩ rfl rfl hl.1 rfl (lv_room (Nat.le_of_ble_eq_true rfl)) dX6_skipBlanks_26 ⟨Nat.le_of_ble_eq_true rfl, Nat.le_of_ble_eq_true rfl⟩) (fun H locs hp => ?_)
      have hk_1 : qk st_15 h0 = 9 := by rw [(mo_X6_isBlank r_14 _ _ _ hc_16).2.2.1]; exact hk_1
      have hk_4 : qk st_15 a_2 = 8 := by rw [(mo_X6_isBlank r_14 _ _ _ hc_16).2.2.1]; exact hk_4
      have hk_11 : qk st_15 a_9 = 8 := by rw [(mo_X6_isBlank r_14 _ _ _ hc_16).2.2.1]; exact hk_11
      refine lv_if_eq (tgt := 48) hx hb dX6_skipBlanks_29 (by decide) (fun c_18 => ?_) (fun c_18 => ?_)
      · have hf := pif_t c_18 hf
        have e2 := Option.some.inj hf
        exact W.vret hx hb hr (fun t ht hW => ⟨⟨(), rfl, trivial, Cp.end e2 hp ht⟩, hp.2.1.F ht⟩) hp.2.1.2.2 dX6_skipBlanks_48
      · have hf := pif_f c_18 hf
        refine lv_aload_n hx hb dX6_skipBlanks_32 rfl (lv_at hl 0 rfl) ?_
        refine lv_dup hx hb dX6_skipBlanks_33 rfl ?_
        refine q_gi (ci := 8) (C := RX6) (T := TX6) (N := 6) (k := 3) hx hb hts iRX6 hown hK hp hk_1 (by decide) rfl rfl (by decide) rfl (Or.inl (hts (.fieldLink RX6 26 "RecordBench$TextReader" "pos" "I") (by decide +kernel))) (fun _ h9 => h9) dX6_skipBlanks_34 ?_
        refine lv_iconst (v := 1) hx hb dX6_skipBlanks_37 (by decide) ?_
        refine lv_iadd hx hb dX6_skipBlanks_38 ?_
        refine q_pi (ci := 8) (C := RX6) (T := TX6) (N := 6) (k := 3) (v := (qI st_15 h0 3) + 1) (ty := .int) hx hb hts iRX6 tyX6 tyX6_ok nmX6 hown hK hp hk_1 (by decide) rfl rfl (by decide) rfl (Or.inl (hts (.fieldLink RX6 26 "RecordBench$TextReader" "pos" "I") (by decide +kernel))) (fun _ h9 => h9) rfl (by decide +kernel) rfl rfl dX6_skipBlanks_39 (fun H locs hp => ?_)
        obtain ⟨st_19, est_19, hf⟩ := nam_some hf
        rw [← est_19] at hp
        have hk_1 : qk st_19 h0 = 9 := by rw [est_19]; exact hk_1
        have hk_4 : qk st_19 a_2 = 8 := by rw [est_19]; exact hk_4
        have hk_11 : qk st_19 a_9 = 8 := by rw [est_19]; exact hk_11
        obtain ⟨v_20, ev_20, hf⟩ := nam_some hf
        refine lv_iinc (v := v_20) (lv' := [(2, .int v_20), (0, .ref (ad h0))]) hx hb dX6_skipBlanks_42 hl (k := 1) rfl ev_20.symm (by decide) rfl (fun ls hl => ?_)
        refine lv_goto (tgt := 7) hx hb dX6_skipBlanks_45 (by decide) ?_
        exact ih7 (v_20, st_19) _ _ _ ⟨hf, hp, (lv_sub hl [1, 0] rfl)⟩
  unfold fX6_skipBlanks at hf
  refine lv_aload_n hx hb dX6_skipBlanks_0 rfl (lv_at hl 0 rfl) ?_
  obtain ⟨hk_21, hf⟩ := gd_some hf
  refine q_gi (ci := 8) (C := RX6) (T := TX6) (N := 6) (k := 3) hx hb hts iRX6 hown hK hp hk_21 (by decide) rfl rfl (by decide) rfl (Or.inl (hts (.fieldLink RX6 26 "RecordBench$TextReader" "pos" "I") (by decide +kernel))) (fun _ h9 => h9) dX6_skipBlanks_1 ?_
  obtain ⟨v_22, ev_22, hf⟩ := nam_some hf
  refine W_toi (y := v_22) ev_22.symm ?_
  refine lv_istore_n (i := 1) (lv' := [(1, .int v_22), (0, .ref (ad h0))]) hx hb dX6_skipBlanks_4 rfl hl (by decide) rfl (fun ls hl => ?_)
  refine lv_iload_n hx hb dX6_skipBlanks_5 rfl (lv_at hl 0 rfl) ?_
  refine lv_istore_n (i := 2) (lv' := [(2, .int v_22), (1, .int v_22), (0, .ref (ad h0))]) hx hb dX6_skipBlanks_6 rfl hl (by decide) rfl (fun ls hl => ?_)
  exact J7 fuel (v_22, st) _ _ _ ⟨hf, hp, (lv_sub hl [2, 0] rfl)⟩
noncomputable def fX6_kindOf (p0 : Option Nat) (st : CS) : Option (Int32 × CS) := ono p0 (fun a_1 => gd (qk st a_1 = 1) (bnd (fJ0_equals_9ea2d a_1 (some 2) st) (fun r_6 st_4 => pif (r_6 = 0) (bnd (fJ0_equals_9ea2d a_1 (some 3) st_4) (fun r_10 st_8 => pif (r_10 = 0) (bnd (fJ0_equals_9ea2d a_1 (some 4) st_8) (fun r_14 st_12 => pif (r_14 = 0) (bnd (fJ0_equals_9ea2d a_1 (some 5) st_12) (fun r_18 st_16 => pif (r_18 = 0) (bnd (fJ0_equals_9ea2d a_1 (some 6) st_16) (fun r_22 st_20 => pif (r_22 = 0) (bnd (fJ0_equals_9ea2d a_1 (some 7) st_20) (fun r_26 st_24 => pif (r_26 = 0) (some ((0 : Int32), st_24)) (some ((6 : Int32), st_24)))) (some ((5 : Int32), st_20)))) (some ((4 : Int32), st_16)))) (some ((3 : Int32), st_12)))) (some ((2 : Int32), st_8)))) (some ((1 : Int32), st_4)))))
set_option maxHeartbeats 1000000 in
theorem mo_X6_kindOf (p0 : Option Nat) (st : CS) (r : Int32) (st' : CS) (hf : fX6_kindOf p0 st = some (r, st')) : Ke st st' := by
  unfold fX6_kindOf at hf
  have hm : Ke st st := Ke.rf
  obtain ⟨a_1, ha_2, hf⟩ := ono_some hf
  obtain ⟨hk_3, hf⟩ := gd_some hf
  obtain ⟨r_6, st_4, hc_5, hf⟩ := bnd_some hf
  have hm := hm.tr (mo_J0_equals_9ea2d a_1 (some 2) _ _ _ hc_5)
  rcases pif_or hf with ⟨c_7, hf⟩ | ⟨c_7, hf⟩
  · obtain ⟨r_10, st_8, hc_9, hf⟩ := bnd_some hf
    have hm := hm.tr (mo_J0_equals_9ea2d a_1 (some 3) _ _ _ hc_9)
    rcases pif_or hf with ⟨c_11, hf⟩ | ⟨c_11, hf⟩
    · obtain ⟨r_14, st_12, hc_13, hf⟩ := bnd_some hf
      have hm := hm.tr (mo_J0_equals_9ea2d a_1 (some 4) _ _ _ hc_13)
      rcases pif_or hf with ⟨c_15, hf⟩ | ⟨c_15, hf⟩
      · obtain ⟨r_18, st_16, hc_17, hf⟩ := bnd_some hf
        have hm := hm.tr (mo_J0_equals_9ea2d a_1 (some 5) _ _ _ hc_17)
        rcases pif_or hf with ⟨c_19, hf⟩ | ⟨c_19, hf⟩
        · obtain ⟨r_22, st_20, hc_21, hf⟩ := bnd_some hf
          have hm := hm.tr (mo_J0_equals_9ea2d a_1 (some 6) _ _ _ hc_21)
          rcases pif_or hf with ⟨c_23, hf⟩ | ⟨c_23, hf⟩
          · obtain ⟨r_26, st_24, hc_25, hf⟩ := bnd_some hf
            have hm := hm.tr (mo_J0_equals_9ea2d a_1 (some 7) _ _ _ hc_25)
            rcases pif_or hf with ⟨c_27, hf⟩ | ⟨c_27, hf⟩
            · obtain ⟨e1, e2⟩ := pr_some hf
              exact e2 ▸ hm
            · obtain ⟨e1, e2⟩ := pr_some hf
              exact e2 ▸ hm
          · obtain ⟨e1, e2⟩ := pr_some hf
            exact e2 ▸ hm
        · obtain ⟨e1, e2⟩ := pr_some hf
          exact e2 ▸ hm
      · obtain ⟨e1, e2⟩ := pr_some hf
        exact e2 ▸ hm
    · obtain ⟨e1, e2⟩ := pr_some hf
      exact e2 ▸ hm
  · obtain ⟨e1, e2⟩ := pr_some hf
    exact e2 ▸ hm
def wq_X6_kindOf : List Cond := .code yX6_kindOf cX6_kindOf 1 (some .int) :: (([.methodLink RX6 120 yJ0_equals_9ea2d, .instanceMethod yJ0_equals_9ea2d, .selects RJ0 yJ0_equals_9ea2d yJ0_equals_9ea2d, .initialized RJ0, .code yJ0_equals_9ea2d cJ0_equals_9ea2d 3 (some .boolean), .classLink RJ0 10 "java/lang/String", .fieldLink RJ0 38 "java/lang/String" "COMPACT_STRINGS" "Z", .fieldLink RJ0 15 "java/lang/String" "coder" "B", .fieldLink RJ0 9 "java/lang/String" "value" "[B", .methodLink RJ0 541 yJ1_equals_b5fdf, .static yJ1_equals_b5fdf, .initialized RJ1, .code yJ1_equals_b5fdf cJ1_equals_b5fdf 3 (some .boolean)] : List Cond) ++ wsJ00)
theorem gs_wq_X6_kindOf_wsJ00 : GoodIn wq_X6_kindOf wsJ00 := fun w h => ⟨List.mem_cons_of_mem _ (List.mem_append_right _ h), (gt_wsJ00 w h).2⟩
set_option maxRecDepth 20000 in
theorem gq_X6_kindOf_J0_equals_9ea2d_120 : GoodIn wq_X6_kindOf (wsV RX6 120 RJ0 yJ0_equals_9ea2d wq_J0_equals_9ea2d) := goodIn_app (goodIn_r _ [1, 2, 3, 4] rfl rfl) (goodIn_ca (goodIn_r _ [5, 6, 7, 8, 9, 10, 11, 12, 13] rfl rfl) gs_wq_X6_kindOf_wsJ00)
set_option maxHeartbeats 4000000 in
set_option maxRecDepth 100000 in
theorem c_X6_kindOf (l : Launch) (dC : Nat → ClassId) (dI : Nat → Nat → Nat) (ka ad : Nat → Nat) (ct : Nat → ClassId) (p0 : Option Nat) (st st' : CS) (r : Int32) (hf : fX6_kindOf p0 st = some (r, st')) (sz : Nat) : Met l yX6_kindOf wq_X6_kindOf ({ frames := 2, cells := 0, slots := 0, locals := 52 }) (va_Pc [va_rf (Option.map ad p0)] (PrC (dC, dI) ct ka ad st sz)) (va_Qi (fun r' (_ : Unit) => r' = r) (fun _ => CB (dC, dI) ct ka ad st' (aC ad st sz)) (aC ad st sz)) 0 0 (aC ad st sz) := by
  refine Met.ofW (cc := cX6_kindOf) (maxL := 1) (ret := (some .int)) (by decide) rfl ?_
  intro p e s m args below meth c s₁ B hml hv
  obtain ⟨rfl, hsz, hw0, hK, hN, hZ, hC, hR, hL, hw1, hw2⟩ := hv
  have hx := B.exec
  have hb := B.bytes
  have hr := B.returns
  have hts := atoms_spec (ws := wq_X6_kindOf) B.pre
  have hown : s.vm.findClass RX6 = some m.cls := findClass_of_methodNamed B.named
  subst hsz
  have hp : Cp (dC, dI) ka ad ct (aC ad st s.heap.size) s.heap st s.heap [] := ⟨fun i a b => ⟨hw0 i a b, Or.inl ⟨i, a, b, rfl⟩⟩, va_S.rf, hw1, hw2⟩
  generalize hAe : aC ad st s.heap.size = A at hp hZ hC ⊢
  have hA : ∀ q : Nat, s.heap.size ≤ q → A q := fun q h => by rw [← hAe]; exact Or.inr h
  have hl := lv_entry ([va_rf (Option.map ad p0)]) (n := 1) (by simp [lg_sl, rf_cat, vc_i, vc_l, vc_r, vc_n])
  rw [lg_entry_eq]
  generalize (lg_sl ([va_rf (Option.map ad p0)]) ++ List.replicate (1 - (lg_sl ([va_rf (Option.map ad p0)])).length) Slot.unset).toArray = ls at hl ⊢
  have hl : lv_has ls 1 [(0, va_rf (Option.map ad p0))] := by simpa [lv_args, rf_cat, vc_i, vc_l, vc_r, vc_n] using hl
  unfold fX6_kindOf at hf
  refine o_aload_n hx hb dX6_kindOf_0 rfl (lv_at hl 0 rfl) ?_
  refine q_ldc (i := 2) hx hb hown (hR (RX6, 195, "flag", 2) (by decide +kernel)) hp (by decide) dX6_kindOf_1 ?_
  obtain ⟨a_1, ha_2, hf⟩ := ono_some hf
  refine o_at1 ha_2 ?_
  obtain ⟨hk_3, hf⟩ := gd_some hf
  obtain ⟨r_6, st_4, hc_5, hf⟩ := bnd_some hf
  refine q_ci hp hA (va_runV (As := [.ref (ad 2)]) (rest := []) ⟨hx, hb, hml, hown, hts⟩ (c_J0_equals_9ea2d l dC dI ka ad ct a_1 (some 2) _ _ _ hc_5 _) (cwV 1 hts gq_X6_kindOf_J0_equals_9ea2d_120 rfl rfl rfl (by decide +kernel) ⟨Nat.le_of_ble_eq_true rfl, Nat.le_of_ble_eq_true rfl⟩) ⟨PrC.blind _, q_recv (ci := 0) hK hp hC hk_3 (by decide) rfl (fun _ => rfl), q_pre hp hK hN hZ hC hR hL hA⟩ rfl rfl hl.1 rfl (lv_room (Nat.le_of_ble_eq_true rfl)) dX6_kindOf_3 ⟨Nat.le_of_ble_eq_true rfl, Nat.le_of_ble_eq_true rfl⟩) (fun H locs hp => ?_)
  have hk_3 : qk st_4 a_1 = 1 := by rw [(mo_J0_equals_9ea2d a_1 (some 2) _ _ _ hc_5).2.2.1]; exact hk_3
  refine lv_if_eq (tgt := 11) hx hb dX6_kindOf_6 (by decide) (fun c_7 => ?_) (fun c_7 => ?_)
  · have hf := pif_t c_7 hf
    refine o_aload_n hx hb dX6_kindOf_11 rfl (lv_at hl 0 rfl) ?_
    refine q_ldc (i := 3) hx hb hown (hR (RX6, 197, "small", 3) (by decide +kernel)) hp (by decide) dX6_kindOf_12 ?_
    refine o_at1 ha_2 ?_
    obtain ⟨r_10, st_8, hc_9, hf⟩ := bnd_some hf
    refine q_ci hp hA (va_runV (As := [.ref (ad 3)]) (rest := []) ⟨hx, hb, hml, hown, hts⟩ (c_J0_equals_9ea2d l dC dI ka ad ct a_1 (some 3) _ _ _ hc_9 _) (cwV 1 hts gq_X6_kindOf_J0_equals_9ea2d_120 rfl rfl rfl (by decide +kernel) ⟨Nat.le_of_ble_eq_true rfl, Nat.le_of_ble_eq_true rfl⟩) ⟨PrC.blind _, q_recv (ci := 0) hK hp hC hk_3 (by decide) rfl (fun _ => rfl), q_pre hp hK hN hZ hC hR hL hA⟩ rfl rfl hl.1 rfl (lv_room (Nat.le_of_ble_eq_true rfl)) dX6_kindOf_14 ⟨Nat.le_of_ble_eq_true rfl, Nat.le_of_ble_eq_true rfl⟩) (fun H locs hp => ?_)
    have hk_3 : qk st_8 a_1 = 1 := by rw [(mo_J0_equals_9ea2d a_1 (some 3) _ _ _ hc_9).2.2.1]; exact hk_3
    refine lv_if_eq (tgt := 22) hx hb dX6_kindOf_17 (by decide) (fun c_11 => ?_) (fun c_11 => ?_)
    · have hf := pif_t c_11 hf
      refine o_aload_n hx hb dX6_kindOf_22 rfl (lv_at hl 0 rfl) ?_
      refine q_ldc (i := 4) hx hb hown (hR (RX6, 199, "int", 4) (by decide +kernel)) hp (by decide) dX6_kindOf_23 ?_
      refine o_at1 ha_2 ?_
      obtain ⟨r_14, st_12, hc_13, hf⟩ := bnd_some hf
      refine q_ci hp hA (va_runV (As := [.ref (ad 4)]) (rest := []) ⟨hx, hb, hml, hown, hts⟩ (c_J0_equals_9ea2d l dC dI ka ad ct a_1 (some 4) _ _ _ hc_13 _) (cwV 1 hts gq_X6_kindOf_J0_equals_9ea2d_120 rfl rfl rfl (by decide +kernel) ⟨Nat.le_of_ble_eq_true rfl, Nat.le_of_ble_eq_true rfl⟩) ⟨PrC.blind _, q_recv (ci := 0) hK hp hC hk_3 (by decide) rfl (fun _ => rfl), q_pre hp hK hN hZ hC hR hL hA⟩ rfl rfl hl.1 rfl (lv_room (Nat.le_of_ble_eq_true rfl)) dX6_kindOf_25 ⟨Nat.le_of_ble_eq_true rfl, Nat.le_of_ble_eq_true rfl⟩) (fun H locs hp => ?_)
      have hk_3 : qk st_12 a_1 = 1 := by rw [(mo_J0_equals_9ea2d a_1 (some 4) _ _ _ hc_13).2.2.1]; exact hk_3
      refine lv_if_eq (tgt := 33) hx hb dX6_kindOf_28 (by decide) (fun c_15 => ?_) (fun c_15 => ?_)
      · have hf := pif_t c_15 hf
        refine o_aload_n hx hb dX6_kindOf_33 rfl (lv_at hl 0 rfl) ?_
        refine q_ldc (i := 5) hx hb hown (hR (RX6, 201, "long", 5) (by decide +kernel)) hp (by decide) dX6_kindOf_34 ?_
        refine o_at1 ha_2 ?_
        obtain ⟨r_18, st_16, hc_17, hf⟩ := bnd_some hf
        refine q_ci hp hA (va_runV (As := [.ref (ad 5)]) (rest := []) ⟨hx, hb, hml, hown, hts⟩ (c_J0_equals_9ea2d l dC dI ka ad ct a_1 (some 5) _ _ _ hc_17 _) (cwV 1 hts gq_X6_kindOf_J0_equals_9ea2d_120 rfl rfl rfl (by decide +kernel) ⟨Nat.le_of_ble_eq_true rfl, Nat.le_of_ble_eq_true rfl⟩) ⟨PrC.blind _, q_recv (ci := 0) hK hp hC hk_3 (by decide) rfl (fun _ => rfl), q_pre hp hK hN hZ hC hR hL hA⟩ rfl rfl hl.1 rfl (lv_room (Nat.le_of_ble_eq_true rfl)) dX6_kindOf_36 ⟨Nat.le_of_ble_eq_true rfl, Nat.le_of_ble_eq_true rfl⟩) (fun H locs hp => ?_)
        have hk_3 : qk st_16 a_1 = 1 := by rw [(mo_J0_equals_9ea2d a_1 (some 5) _ _ _ hc_17).2.2.1]; exact hk_3
        refine lv_if_eq (tgt := 44) hx hb dX6_kindOf_39 (by decide) (fun c_19 => ?_) (fun c_19 => ?_)
        · have hf := pif_t c_19 hf
          refine o_aload_n hx hb dX6_kindOf_44 rfl (lv_at hl 0 rfl) ?_
          refine q_ldc (i := 6) hx hb hown (hR (RX6, 203, "text", 6) (by decide +kernel)) hp (by decide) dX6_kindOf_45 ?_
          refine o_at1 ha_2 ?_
          obtain ⟨r_22, st_20, hc_21, hf⟩ := bnd_some hf
          refine q_ci hp hA (va_runV (As := [.ref (ad 6)]) (rest := []) ⟨hx, hb, hml, hown, hts⟩ (c_J0_equals_9ea2d l dC dI ka ad ct a_1 (some 6) _ _ _ hc_21 _) (cwV 1 hts gq_X6_kindOf_J0_equals_9ea2d_120 rfl rfl rfl (by decide +kernel) ⟨Nat.le_of_ble_eq_true rfl, Nat.le_of_ble_eq_true rfl⟩) ⟨PrC.blind _, q_recv (ci := 0) hK hp hC hk_3 (by decide) rfl (fun _ => rfl), q_pre hp hK hN hZ hC hR hL hA⟩ rfl rfl hl.1 rfl (lv_room (Nat.le_of_ble_eq_true rfl)) dX6_kindOf_47 ⟨Nat.le_of_ble_eq_true rfl, Nat.le_of_ble_eq_true rfl⟩) (fun H locs hp => ?_)
          have hk_3 : qk st_20 a_1 = 1 := by rw [(mo_J0_equals_9ea2d a_1 (some 6) _ _ _ hc_21).2.2.1]; exact hk_3
          refine lv_if_eq (tgt := 55) hx hb dX6_kindOf_50 (by decide) (fun c_23 => ?_) (fun c_23 => ?_)
          · have hf := pif_t c_23 hf
            refine o_aload_n hx hb dX6_kindOf_55 rfl (lv_at hl 0 rfl) ?_
            refine q_ldc (i := 7) hx hb hown (hR (RX6, 204, "rec", 7) (by decide +kernel)) hp (by decide) dX6_kindOf_56 ?_
            refine o_at1 ha_2 ?_
            obtain ⟨r_26, st_24, hc_25, hf⟩ := bnd_some hf
            refine q_ci hp hA (va_runV (As := [.ref (ad 7)]) (rest := []) ⟨hx, hb, hml, hown, hts⟩ (c_J0_equals_9ea2d l dC dI ka ad ct a_1 (some 7) _ _ _ hc_25 _) (cwV 1 hts gq_X6_kindOf_J0_equals_9ea2d_120 rfl rfl rfl (by decide +kernel) ⟨Nat.le_of_ble_eq_true rfl, Nat.le_of_ble_eq_true rfl⟩) ⟨PrC.blind _, q_recv (ci := 0) hK hp hC hk_3 (by decide) rfl (fun _ => rfl), q_pre hp hK hN hZ hC hR hL hA⟩ rfl rfl hl.1 rfl (lv_room (Nat.le_of_ble_eq_true rfl)) dX6_kindOf_58 ⟨Nat.le_of_ble_eq_true rfl, Nat.le_of_ble_eq_true rfl⟩) (fun H locs hp => ?_)
            have hk_3 : qk st_24 a_1 = 1 := by rw [(mo_J0_equals_9ea2d a_1 (some 7) _ _ _ hc_25).2.2.1]; exact hk_3
            refine lv_if_eq (tgt := 69) hx hb dX6_kindOf_61 (by decide) (fun c_27 => ?_) (fun c_27 => ?_)
            · have hf := pif_t c_27 hf
              refine lv_iconst (v := 0) hx hb dX6_kindOf_69 (by decide) ?_
              obtain ⟨e1, e2⟩ := pr_some hf
              exact W.iret (v := 0) hx hb hr (fun t ht hW => ⟨⟨0, (), rfl, e1, Cp.end e2 hp ht⟩, hp.2.1.F ht⟩) hp.2.1.2.2 dX6_kindOf_70
            · have hf := pif_f c_27 hf
              refine lv_bipush (v := 6) hx hb dX6_kindOf_64 (by decide) ?_
              refine lv_goto (tgt := 70) hx hb dX6_kindOf_66 (by decide) ?_
              obtain ⟨e1, e2⟩ := pr_some hf
              exact W.iret (v := 6) hx hb hr (fun t ht hW => ⟨⟨6, (), rfl, e1, Cp.end e2 hp ht⟩, hp.2.1.F ht⟩) hp.2.1.2.2 dX6_kindOf_70
          · have hf := pif_f c_23 hf
            refine lv_iconst (v := 5) hx hb dX6_kindOf_53 (by decide) ?_
            obtain ⟨e1, e2⟩ := pr_some hf
            exact W.iret (v := 5) hx hb hr (fun t ht hW => ⟨⟨5, (), rfl, e1, Cp.end e2 hp ht⟩, hp.2.1.F ht⟩) hp.2.1.2.2 dX6_kindOf_54
        · have hf := pif_f c_19 hf
          refine lv_iconst (v := 4) hx hb dX6_kindOf_42 (by decide) ?_
          obtain ⟨e1, e2⟩ := pr_some hf
          exact W.iret (v := 4) hx hb hr (fun t ht hW => ⟨⟨4, (), rfl, e1, Cp.end e2 hp ht⟩, hp.2.1.F ht⟩) hp.2.1.2.2 dX6_kindOf_43
      · have hf := pif_f c_15 hf
        refine lv_iconst (v := 3) hx hb dX6_kindOf_31 (by decide) ?_
        obtain ⟨e1, e2⟩ := pr_some hf
        exact W.iret (v := 3) hx hb hr (fun t ht hW => ⟨⟨3, (), rfl, e1, Cp.end e2 hp ht⟩, hp.2.1.F ht⟩) hp.2.1.2.2 dX6_kindOf_32
    · have hf := pif_f c_11 hf
      refine lv_iconst (v := 2) hx hb dX6_kindOf_20 (by decide) ?_
      obtain ⟨e1, e2⟩ := pr_some hf
      exact W.iret (v := 2) hx hb hr (fun t ht hW => ⟨⟨2, (), rfl, e1, Cp.end e2 hp ht⟩, hp.2.1.F ht⟩) hp.2.1.2.2 dX6_kindOf_21
  · have hf := pif_f c_7 hf
    refine lv_iconst (v := 1) hx hb dX6_kindOf_9 (by decide) ?_
    obtain ⟨e1, e2⟩ := pr_some hf
    exact W.iret (v := 1) hx hb hr (fun t ht hW => ⟨⟨1, (), rfl, e1, Cp.end e2 hp ht⟩, hp.2.1.F ht⟩) hp.2.1.2.2 dX6_kindOf_10
noncomputable def fX6_takeNumber_102 (h0 : Nat)  (l3 : Int32) (gs : CS) : Option (Int32 × CS) := gd (qk gs h0 = 9) (bnd (fX6_refuse h0 2 l3 gs) (fun r_4 st_2 => gd (narrow .boolean (.int r_4) = .int r_4) (some (r_4, st_2))))
set_option maxHeartbeats 1000000 in
theorem mo_X6_takeNumber_102 (h0 : Nat)   (l3 : Int32) (gs : CS) (r : Int32) (st' : CS) (hf : fX6_takeNumber_102 h0 l3 gs = some (r, st')) : Ke gs st' := by
  unfold fX6_takeNumber_102 at hf
  have hm : Ke gs gs := Ke.rf
  obtain ⟨hk_1, hf⟩ := gd_some hf
  obtain ⟨r_4, st_2, hc_3, hf⟩ := bnd_some hf
  have hm := hm.tr (mo_X6_refuse h0 2 l3 _ _ _ hc_3)
  obtain ⟨hz, hf⟩ := gd_some hf
  obtain ⟨e1, e2⟩ := pr_some hf
  exact e2 ▸ hm
noncomputable def fX6_takeNumber_79 (h0 : Nat)  (gs : CS) : Option (Int32 × CS) := gd (qk gs h0 = 9) (bnd (fX6_refuse h0 1 (qI gs h0 3) gs) (fun r_8 st_6 => gd (narrow .boolean (.int r_8) = .int r_8) (some (r_8, st_6))))
set_option maxHeartbeats 1000000 in
theorem mo_X6_takeNumber_79 (h0 : Nat)   (gs : CS) (r : Int32) (st' : CS) (hf : fX6_takeNumber_79 h0 gs = some (r, st')) : Ke gs st' := by
  unfold fX6_takeNumber_79 at hf
  have hm : Ke gs gs := Ke.rf
  obtain ⟨hk_5, hf⟩ := gd_some hf
  obtain ⟨r_8, st_6, hc_7, hf⟩ := bnd_some hf
  have hm := hm.tr (mo_X6_refuse h0 1 (qI gs h0 3) _ _ _ hc_7)
  obtain ⟨hz, hf⟩ := gd_some hf
  obtain ⟨e1, e2⟩ := pr_some hf
  exact e2 ▸ hm
noncomputable def fX6_takeNumber_60 (h0 : Nat)  (l1 : Option Nat) (l2 : Option Nat) (l3 : Int32) (l4 : Int32) (gs : CS) : Option (Int32 × CS) := gd (qk gs h0 = 9) (pif ((qI gs h0 3) = l3) (fX6_takeNumber_79 h0 gs) (bnd (fX6_isDigit h0 (qI gs h0 3) gs) (fun r_13 st_11 => pif (r_13 = 0) (pif (l4 < 1) (fX6_takeNumber_102 h0 l3 st_11) (pif (l4 ≤ 30) (ono l2 (fun a_17 => gd (qk st_11 a_17 = 4) (bnd (fX1_fieldAt a_17 l4 st_11) (fun r_22 st_20 => pif (r_22 = none) (ono l1 (fun a_24 => gd (qk st_20 a_24 = 3) (nam (wI st_20 a_24 0 l4) (fun st_27 => bnd (fX6_isLetter h0 (qI st_27 h0 3) st_27) (fun r_30 st_28 => pif (r_30 = 0) (some ((1 : Int32), st_28)) (bnd (fX6_refuse h0 1 (qI st_28 h0 3) st_28) (fun r_34 st_32 => pif (r_34 = 0) (some ((0 : Int32), st_32)) (some ((1 : Int32), st_32))))))))) (bnd (fX6_refuse h0 3 l3 st_20) (fun r_38 st_36 => gd (narrow .boolean (.int r_38) = .int r_38) (some (r_38, st_36)))))))) (fX6_takeNumber_102 h0 l3 st_11))) (fX6_takeNumber_79 h0 st_11))))
set_option maxHeartbeats 1000000 in
theorem mo_X6_takeNumber_60 (h0 : Nat)   (l1 : Option Nat) (l2 : Option Nat) (l3 : Int32) (l4 : Int32) (gs : CS) (r : Int32) (st' : CS) (hf : fX6_takeNumber_60 h0 l1 l2 l3 l4 gs = some (r, st')) : Ke gs st' := by
  unfold fX6_takeNumber_60 at hf
  have hm : Ke gs gs := Ke.rf
  obtain ⟨hk_9, hf⟩ := gd_some hf
  rcases pif_or hf with ⟨c_10, hf⟩ | ⟨c_10, hf⟩
  · exact hm.tr (mo_X6_takeNumber_79 h0 gs _ _ hf)
  · obtain ⟨r_13, st_11, hc_12, hf⟩ := bnd_some hf
    have hm := hm.tr (mo_X6_isDigit h0 (qI gs h0 3) _ _ _ hc_12)
    rcases pif_or hf with ⟨c_14, hf⟩ | ⟨c_14, hf⟩
    · rcases pif_or hf with ⟨c_15, hf⟩ | ⟨c_15, hf⟩
      · exact hm.tr (mo_X6_takeNumber_102 h0 l3 st_11 _ _ hf)
      · rcases pif_or hf with ⟨c_16, hf⟩ | ⟨c_16, hf⟩
        · obtain ⟨a_17, ha_18, hf⟩ := ono_some hf
          obtain ⟨hk_19, hf⟩ := gd_some hf
          obtain ⟨r_22, st_20, hc_21, hf⟩ := bnd_some hf
          have hm := hm.tr (mo_X1_fieldAt a_17 l4 _ _ _ hc_21)
          rcases pif_or hf with ⟨c_23, hf⟩ | ⟨c_23, hf⟩
          · obtain ⟨a_24, ha_25, hf⟩ := ono_some hf
            obtain ⟨hk_26, hf⟩ := gd_some hf
            obtain ⟨st_27, est_27, hf⟩ := nam_some hf
            have hm := hm.wI est_27
            obtain ⟨r_30, st_28, hc_29, hf⟩ := bnd_some hf
            have hm := hm.tr (mo_X6_isLetter h0 (qI st_27 h0 3) _ _ _ hc_29)
            rcases pif_or hf with ⟨c_31, hf⟩ | ⟨c_31, hf⟩
            · obtain ⟨e1, e2⟩ := pr_some hf
              exact e2 ▸ hm
            · obtain ⟨r_34, st_32, hc_33, hf⟩ := bnd_some hf
              have hm := hm.tr (mo_X6_refuse h0 1 (qI st_28 h0 3) _ _ _ hc_33)
              rcases pif_or hf with ⟨c_35, hf⟩ | ⟨c_35, hf⟩
              · obtain ⟨e1, e2⟩ := pr_some hf
                exact e2 ▸ hm
              · obtain ⟨e1, e2⟩ := pr_some hf
                exact e2 ▸ hm
          · obtain ⟨r_38, st_36, hc_37, hf⟩ := bnd_some hf
            have hm := hm.tr (mo_X6_refuse h0 3 l3 _ _ _ hc_37)
            obtain ⟨hz, hf⟩ := gd_some hf
            obtain ⟨e1, e2⟩ := pr_some hf
            exact e2 ▸ hm
        · exact hm.tr (mo_X6_takeNumber_102 h0 l3 st_11 _ _ hf)
    · exact hm.tr (mo_X6_takeNumber_79 h0 st_11 _ _ hf)
noncomputable def fX6_takeNumber_11 (h0 : Nat)  : Nat → Option Nat → Option Nat → Int32 → Int32 → Int32 → CS → Option (Int32 × CS)
  | 0 => fun _ _ _ _ _ _ => none
  | n + 1 => fun l1 l2 l3 l4 l5 gs => pif (2 ≤ l5) (fX6_takeNumber_60 h0 l1 l2 l3 l4 gs) (gd (qk gs h0 = 9) (bnd (fX6_isDigit h0 (qI gs h0 3) gs) (fun r_43 st_41 => pif (r_43 = 0) (fX6_takeNumber_60 h0 l1 l2 l3 l4 st_41) (bnd (fX6_digitAt h0 (qI st_41 h0 3) st_41) (fun r_47 st_45 => nam ((l4 * 10) + r_47) (fun v_48 => nam (wI st_45 h0 3 ((qI st_45 h0 3) + 1)) (fun st_49 => nam (l5 + 1) (fun v_50 => (fX6_takeNumber_11 h0 n) l1 l2 l3 v_48 v_50 st_49))))))))
theorem fX6_takeNumber_11_z (h0 : Nat)  (l1 : Option Nat) (l2 : Option Nat) (l3 : Int32) (l4 : Int32) (l5 : Int32) (gs : CS) : fX6_takeNumber_11 h0 0 l1 l2 l3 l4 l5 gs = none := rfl
theorem fX6_takeNumber_11_s (h0 : Nat)  (n : Nat) (l1 : Option Nat) (l2 : Option Nat) (l3 : Int32) (l4 : Int32) (l5 : Int32) (gs : CS) : fX6_takeNumber_11 h0 (n + 1) l1 l2 l3 l4 l5 gs = pif (2 ≤ l5) (fX6_takeNumber_60 h0 l1 l2 l3 l4 gs) (gd (qk gs h0 = 9) (bnd (fX6_isDigit h0 (qI gs h0 3) gs) (fun r_43 st_41 => pif (r_43 = 0) (fX6_takeNumber_60 h0 l1 l2 l3 l4 st_41) (bnd (fX6_digitAt h0 (qI st_41 h0 3) st_41) (fun r_47 st_45 => nam ((l4 * 10) + r_47) (fun v_48 => nam (wI st_45 h0 3 ((qI st_45 h0 3) + 1)) (fun st_49 => nam (l5 + 1) (fun v_50 => (fX6_takeNumber_11 h0 n) l1 l2 l3 v_48 v_50 st_49)))))))) := rfl
set_option maxHeartbeats 1000000 in
theorem mo_X6_takeNumber_11 (h0 : Nat)   : ∀ (n : Nat) (l1 : Option Nat) (l2 : Option Nat) (l3 : Int32) (l4 : Int32) (l5 : Int32) (gs : CS) (r : Int32) (st' : CS), fX6_takeNumber_11 h0 n l1 l2 l3 l4 l5 gs = some (r, st') → Ke gs st' := by
  intro n
  induction n with
  | zero =>
    intro l1 l2 l3 l4 l5 gs r st' hf
    rw [fX6_takeNumber_11_z] at hf
    cases hf
  | succ n ih =>
    intro l1 l2 l3 l4 l5 gs r st' hf
    rw [fX6_takeNumber_11_s] at hf
    have hm : Ke gs gs := Ke.rf
    rcases pif_or hf with ⟨c_39, hf⟩ | ⟨c_39, hf⟩
    · exact hm.tr (mo_X6_takeNumber_60 h0 l1 l2 l3 l4 gs _ _ hf)
    · obtain ⟨hk_40, hf⟩ := gd_some hf
      obtain ⟨r_43, st_41, hc_42, hf⟩ := bnd_some hf
      have hm := hm.tr (mo_X6_isDigit h0 (qI gs h0 3) _ _ _ hc_42)
      rcases pif_or hf with ⟨c_44, hf⟩ | ⟨c_44, hf⟩
      · exact hm.tr (mo_X6_takeNumber_60 h0 l1 l2 l3 l4 st_41 _ _ hf)
      · obtain ⟨r_47, st_45, hc_46, hf⟩ := bnd_some hf
        have hm := hm.tr (mo_X6_digitAt h0 (qI st_41 h0 3) _ _ _ hc_46)
        obtain ⟨v_48, ev_48, hf⟩ := nam_some hf
        obtain ⟨st_49, est_49, hf⟩ := nam_some hf
        have hm := hm.wI est_49
        obtain ⟨v_50, ev_50, hf⟩ := nam_some hf
        exact hm.tr (ih l1 l2 l3 v_48 v_50 st_49 _ _ hf)
noncomputable def fX6_takeNumber (h0 : Nat) (p0 : Option Nat) (p1 : Option Nat) (st : CS) : Option (Int32 × CS) := gd (qk st h0 = 9) (nam (qI st h0 3) (fun v_52 => fX6_takeNumber_11 h0 fuel p0 p1 v_52 0 0 st))
set_option maxHeartbeats 1000000 in
theorem mo_X6_takeNumber (h0 : Nat) (p0 : Option Nat) (p1 : Option Nat) (st : CS) (r : Int32) (st' : CS) (hf : fX6_takeNumber h0 p0 p1 st = some (r, st')) : Ke st st' := by
  unfold fX6_takeNumber at hf
  have hm : Ke st st := Ke.rf
  obtain ⟨hk_51, hf⟩ := gd_some hf
  obtain ⟨v_52, ev_52, hf⟩ := nam_some hf
  exact hm.tr (mo_X6_takeNumber_11 h0 fuel p0 p1 v_52 0 0 st _ _ hf)
def wq_X6_takeNumber : List Cond := .code yX6_takeNumber cX6_takeNumber 6 (some .boolean) :: (([.fieldLink RX6 26 "RecordBench$TextReader" "pos" "I", .methodLink RX6 48 yX6_refuse, .instanceMethod yX6_refuse, .selects RX6 yX6_refuse yX6_refuse, .initialized RX6, .methodLink RX6 93 yX6_isDigit, .instanceMethod yX6_isDigit, .selects RX6 yX6_isDigit yX6_isDigit, .methodLink RX6 101 yX1_fieldAt, .instanceMethod yX1_fieldAt, .selects RX1 yX1_fieldAt yX1_fieldAt, .initialized RX1, .methodLink RX6 108 yX6_isLetter, .instanceMethod yX6_isLetter, .selects RX6 yX6_isLetter yX6_isLetter, .methodLink RX6 97 yX6_digitAt, .instanceMethod yX6_digitAt, .selects RX6 yX6_digitAt yX6_digitAt, .code yX6_refuse cX6_refuse 3 (some .boolean), .fieldLink RX6 30 "RecordBench$TextReader" "fault" "I", .fieldLink RX6 33 "RecordBench$TextReader" "place" "I", .code yX6_isDigit cX6_isDigit 3 (some .boolean), .fieldLink RX6 9 "RecordBench$TextReader" "tape" "LRecordBench$Row;", .methodLink RX6 150 yX5_byteAt, .instanceMethod yX5_byteAt, .selects RX5 yX5_byteAt yX5_byteAt, .initialized RX5, .code yX5_byteAt cX5_byteAt 2 (some .int), .fieldLink RX5 21 "RecordBench$Row" "size" "I", .fieldLink RX5 15 "RecordBench$Row" "bytes" "[I", .code yX1_fieldAt cX1_fieldAt 2 (some (.object "RecordBench$Field")), .fieldLink RX1 11 "RecordBench$Make" "fields" "[LRecordBench$Field;", .code yX6_isLetter cX6_isLetter 3 (some .boolean), .code yX6_digitAt cX6_digitAt 3 (some .int)] : List Cond) ++ wsX60 ++ wsX00 ++ wsX50 ++ wsX10)
theorem gs_wq_X6_takeNumber_wsX60 : GoodIn wq_X6_takeNumber wsX60 := fun w h => ⟨List.mem_cons_of_mem _ (List.mem_append_left _ (List.mem_append_left _ (List.mem_append_left _ (List.mem_append_right _ h)))), (gt_wsX60 w h).2⟩
set_option maxRecDepth 20000 in
theorem gq_X6_takeNumber_X6_refuse_48 : GoodIn wq_X6_takeNumber (wsV RX6 48 RX6 yX6_refuse wq_X6_refuse) := goodIn_app (goodIn_r _ [2, 3, 4, 5] rfl rfl) (goodIn_ca (goodIn_r _ [19, 20, 21] rfl rfl) gs_wq_X6_takeNumber_wsX60)
theorem gs_wq_X6_takeNumber_wsX50 : GoodIn wq_X6_takeNumber wsX50 := fun w h => ⟨List.mem_cons_of_mem _ (List.mem_append_left _ (List.mem_append_right _ h)), (gt_wsX50 w h).2⟩
set_option maxRecDepth 20000 in
theorem gq_X6_takeNumber_X6_isDigit_93 : GoodIn wq_X6_takeNumber (wsV RX6 93 RX6 yX6_isDigit wq_X6_isDigit) := goodIn_app (goodIn_r _ [6, 7, 8, 5] rfl rfl) (goodIn_ca (goodIn_ca (goodIn_r _ [22, 23, 24, 25, 26, 27, 28, 29, 30] rfl rfl) gs_wq_X6_takeNumber_wsX60) gs_wq_X6_takeNumber_wsX50)
theorem gs_wq_X6_takeNumber_wsX10 : GoodIn wq_X6_takeNumber wsX10 := fun w h => ⟨List.mem_cons_of_mem _ (List.mem_append_right _ h), (gt_wsX10 w h).2⟩
set_option maxRecDepth 20000 in
theorem gq_X6_takeNumber_X1_fieldAt_101 : GoodIn wq_X6_takeNumber (wsV RX6 101 RX1 yX1_fieldAt wq_X1_fieldAt) := goodIn_app (goodIn_r _ [9, 10, 11, 12] rfl rfl) (goodIn_ca (goodIn_r _ [31, 32] rfl rfl) gs_wq_X6_takeNumber_wsX10)
set_option maxRecDepth 20000 in
theorem gq_X6_takeNumber_X6_isLetter_108 : GoodIn wq_X6_takeNumber (wsV RX6 108 RX6 yX6_isLetter wq_X6_isLetter) := goodIn_app (goodIn_r _ [13, 14, 15, 5] rfl rfl) (goodIn_ca (goodIn_ca (goodIn_r _ [33, 23, 24, 25, 26, 27, 28, 29, 30] rfl rfl) gs_wq_X6_takeNumber_wsX60) gs_wq_X6_takeNumber_wsX50)
set_option maxRecDepth 20000 in
theorem gq_X6_takeNumber_X6_digitAt_97 : GoodIn wq_X6_takeNumber (wsV RX6 97 RX6 yX6_digitAt wq_X6_digitAt) := goodIn_app (goodIn_r _ [16, 17, 18, 5] rfl rfl) (goodIn_ca (goodIn_ca (goodIn_r _ [34, 23, 24, 25, 26, 27, 28, 29, 30] rfl rfl) gs_wq_X6_takeNumber_wsX60) gs_wq_X6_takeNumber_wsX50)
set_option maxHeartbeats 4000000 in
set_option maxRecDepth 100000 in
theorem c_X6_takeNumber (l : Launch) (dC : Nat → ClassId) (dI : Nat → Nat → Nat) (ka ad : Nat → Nat) (ct : Nat → ClassId) (h0 : Nat) (p0 : Option Nat) (p1 : Option Nat) (st st' : CS) (r : Int32) (hf : fX6_takeNumber h0 p0 p1 st = some (r, st')) (sz : Nat) : Met l yX6_takeNumber wq_X6_takeNumber ({ frames := 2, cells := 0, slots := 0, locals := 51 }) (va_Pc [.ref (ad h0), va_rf (Option.map ad p0), va_rf (Option.map ad p1)] (PrC (dC, dI) ct ka ad st sz)) (va_Qi (fun r' (_ : Unit) => r' = r) (fun _ => CB (dC, dI) ct ka ad st' (aC ad st sz)) (aC ad st sz)) 0 0 (aC ad st sz) := by
  refine Met.ofW (cc := cX6_takeNumber) (maxL := 6) (ret := (some .boolean)) (by decide) rfl ?_
  intro p e s m args below meth c s₁ B hml hv
  obtain ⟨rfl, hsz, hw0, hK, hN, hZ, hC, hR, hL, hw1, hw2⟩ := hv
  have hx := B.exec
  have hb := B.bytes
  have hr := B.returns
  have hts := atoms_spec (ws := wq_X6_takeNumber) B.pre
  have hown : s.vm.findClass RX6 = some m.cls := findClass_of_methodNamed B.named
  have iRX6 : ∀ w ∈ u_ws RX6 TX6 6, w ∈ wq_X6_takeNumber := fun w h => List.mem_cons_of_mem _ (List.mem_append_left _ (List.mem_append_left _ (List.mem_append_left _ (List.mem_append_right _ h))))
  have iRX0 : ∀ w ∈ u_ws RX0 TX0 7, w ∈ wq_X6_takeNumber := fun w h => List.mem_cons_of_mem _ (List.mem_append_left _ (List.mem_append_left _ (List.mem_append_right _ h)))
  subst hsz
  have hp : Cp (dC, dI) ka ad ct (aC ad st s.heap.size) s.heap st s.heap [] := ⟨fun i a b => ⟨hw0 i a b, Or.inl ⟨i, a, b, rfl⟩⟩, va_S.rf, hw1, hw2⟩
  generalize hAe : aC ad st s.heap.size = A at hp hZ hC ⊢
  have hA : ∀ q : Nat, s.heap.size ≤ q → A q := fun q h => by rw [← hAe]; exact Or.inr h
  have hl := lv_entry ([.ref (ad h0), va_rf (Option.map ad p0), va_rf (Option.map ad p1)]) (n := 6) (by simp [lg_sl, rf_cat, vc_i, vc_l, vc_r, vc_n])
  rw [lg_entry_eq]
  generalize (lg_sl ([.ref (ad h0), va_rf (Option.map ad p0), va_rf (Option.map ad p1)]) ++ List.replicate (6 - (lg_sl ([.ref (ad h0), va_rf (Option.map ad p0), va_rf (Option.map ad p1)])).length) Slot.unset).toArray = ls at hl ⊢
  have hl : lv_has ls 6 [(0, .ref (ad h0)), (1, va_rf (Option.map ad p0)), (2, va_rf (Option.map ad p1))] := by simpa [lv_args, rf_cat, vc_i, vc_l, vc_r, vc_n] using hl
  refine W_blk (fun (u : Int32 × CS) H locs ls => match u with | (l3, gs) => fX6_takeNumber_102 h0 l3 gs = some (r, st') ∧ Cp (dC, dI) ka ad ct A s.heap gs H locs ∧ lv_has ls 6 [(0, .ref (ad h0)), (3, .int l3)]) (fun (u : Int32 × CS) ls => match u with | (l3, gs) => F0 m 102 ls []) ?_ (fun J102 => ?_)
  · intro u H locs ls hu
    obtain ⟨l3, gs⟩ := u
    obtain ⟨hf, hp, hl⟩ := hu
    show W p l e _ s m _ below meth c _ _ _ _ _ (F0 m 102 ls [])
    unfold fX6_takeNumber_102 at hf
    refine lv_aload_n hx hb dX6_takeNumber_102 rfl (lv_at hl 0 rfl) ?_
    refine lv_iconst (v := 2) hx hb dX6_takeNumber_103 (by decide) ?_
    refine lv_iload_n hx hb dX6_takeNumber_104 rfl (lv_at hl 1 rfl) ?_
    obtain ⟨hk_1, hf⟩ := gd_some hf
    obtain ⟨r_4, st_2, hc_3, hf⟩ := bnd_some hf
    refine q_ci hp hA (va_runV (As := [.int 2, .int l3]) (rest := []) ⟨hx, hb, hml, hown, hts⟩ (c_X6_refuse l dC dI ka ad ct h0 2 l3 _ _ _ hc_3 _) (cwV 2 hts gq_X6_takeNumber_X6_refuse_48 rfl rfl rfl (by decide +kernel) ⟨Nat.le_of_ble_eq_true rfl, Nat.le_of_ble_eq_true rfl⟩) ⟨PrC.blind _, q_rv8 hK hp hC hk_1, q_pre hp hK hN hZ hC hR hL hA⟩ rfl rfl hl.1 rfl (lv_room (Nat.le_of_ble_eq_true rfl)) dX6_takeNumber_105 ⟨Nat.le_of_ble_eq_true rfl, Nat.le_of_ble_eq_true rfl⟩) (fun H locs hp => ?_)
    have hk_1 : qk st_2 h0 = 9 := by rw [(mo_X6_refuse h0 2 l3 _ _ _ hc_3).2.2.1]; exact hk_1
    obtain ⟨hz, hf⟩ := gd_some hf
    obtain ⟨e1, e2⟩ := pr_some hf
    exact W.zret (v := r_4) hx hb hr hz (fun t ht hW => ⟨⟨r_4, (), rfl, e1, Cp.end e2 hp ht⟩, hp.2.1.F ht⟩) hp.2.1.2.2 dX6_takeNumber_108
  refine W_blk (fun (gs : CS) H locs ls => fX6_takeNumber_79 h0 gs = some (r, st') ∧ Cp (dC, dI) ka ad ct A s.heap gs H locs ∧ lv_has ls 6 [(0, .ref (ad h0))]) (fun (gs : CS) ls => F0 m 79 ls []) ?_ (fun J79 => ?_)
  · intro u H locs ls hu
    obtain ⟨gs, rfl⟩ : ∃ z, z = u := ⟨_, rfl⟩
    obtain ⟨hf, hp, hl⟩ := hu
    show W p l e _ s m _ below meth c _ _ _ _ _ (F0 m 79 ls [])
    unfold fX6_takeNumber_79 at hf
    refine lv_aload_n hx hb dX6_takeNumber_79 rfl (lv_at hl 0 rfl) ?_
    refine lv_iconst (v := 1) hx hb dX6_takeNumber_80 (by decide) ?_
    refine lv_aload_n hx hb dX6_takeNumber_81 rfl (lv_at hl 0 rfl) ?_
    obtain ⟨hk_5, hf⟩ := gd_some hf
    refine q_gi (ci := 8) (C := RX6) (T := TX6) (N := 6) (k := 3) hx hb hts iRX6 hown hK hp hk_5 (by decide) rfl rfl (by decide) rfl (Or.inl (hts (.fieldLink RX6 26 "RecordBench$TextReader" "pos" "I") (by decide +kernel))) (fun _ h9 => h9) dX6_takeNumber_82 ?_
    obtain ⟨r_8, st_6, hc_7, hf⟩ := bnd_some hf
    refine q_ci hp hA (va_runV (As := [.int 1, .int (qI gs h0 3)]) (rest := []) ⟨hx, hb, hml, hown, hts⟩ (c_X6_refuse l dC dI ka ad ct h0 1 (qI gs h0 3) _ _ _ hc_7 _) (cwV 2 hts gq_X6_takeNumber_X6_refuse_48 rfl rfl rfl (by decide +kernel) ⟨Nat.le_of_ble_eq_true rfl, Nat.le_of_ble_eq_true rfl⟩) ⟨PrC.blind _, q_rv8 hK hp hC hk_5, q_pre hp hK hN hZ hC hR hL hA⟩ rfl rfl hl.1 rfl (lv_room (Nat.le_of_ble_eq_true rfl)) dX6_takeNumber_85 ⟨Nat.le_of_ble_eq_true rfl, Nat.le_of_ble_eq_true rfl⟩) (fun H locs hp => ?_)
    have hk_5 : qk st_6 h0 = 9 := by rw [(mo_X6_refuse h0 1 (qI gs h0 3) _ _ _ hc_7).2.2.1]; exact hk_5
    obtain ⟨hz, hf⟩ := gd_some hf
    obtain ⟨e1, e2⟩ := pr_some hf
    exact W.zret (v := r_8) hx hb hr hz (fun t ht hW => ⟨⟨r_8, (), rfl, e1, Cp.end e2 hp ht⟩, hp.2.1.F ht⟩) hp.2.1.2.2 dX6_takeNumber_88
  refine W_blk (fun (u : (Option Nat) × (Option Nat) × Int32 × Int32 × CS) H locs ls => match u with | (l1, l2, l3, l4, gs) => fX6_takeNumber_60 h0 l1 l2 l3 l4 gs = some (r, st') ∧ Cp (dC, dI) ka ad ct A s.heap gs H locs ∧ lv_has ls 6 [(0, .ref (ad h0)), (1, va_rf (Option.map ad l1)), (2, va_rf (Option.map ad l2)), (3, .int l3), (4, .int l4)]) (fun (u : (Option Nat) × (Option Nat) × Int32 × Int32 × CS) ls => match u with | (l1, l2, l3, l4, gs) => F0 m 60 ls []) ?_ (fun J60 => ?_)
  · intro u H locs ls hu
    obtain ⟨l1, l2, l3, l4, gs⟩ := u
    obtain ⟨hf, hp, hl⟩ := hu
    show W p l e _ s m _ below meth c _ _ _ _ _ (F0 m 60 ls [])
    unfold fX6_takeNumber_60 at hf
    refine lv_aload_n hx hb dX6_takeNumber_60 rfl (lv_at hl 0 rfl) ?_
    obtain ⟨hk_9, hf⟩ := gd_some hf
    refine q_gi (ci := 8) (C := RX6) (T := TX6) (N := 6) (k := 3) hx hb hts iRX6 hown hK hp hk_9 (by decide) rfl rfl (by decide) rfl (Or.inl (hts (.fieldLink RX6 26 "RecordBench$TextReader" "pos" "I") (by decide +kernel))) (fun _ h9 => h9) dX6_takeNumber_61 ?_
    refine lv_iload_n hx hb dX6_takeNumber_64 rfl (lv_at hl 3 rfl) ?_
    refine lv_icmp_eq (tgt := 79) hx hb dX6_takeNumber_65 (by decide) (fun c_10 => ?_) (fun c_10 => ?_)
    · have hf := pif_t c_10 hf
      exact J79 gs _ _ _ ⟨hf, hp, (lv_sub hl [0] rfl)⟩
    · have hf := pif_f c_10 hf
      refine lv_aload_n hx hb dX6_takeNumber_68 rfl (lv_at hl 0 rfl) ?_
      refine lv_aload_n hx hb dX6_takeNumber_69 rfl (lv_at hl 0 rfl) ?_
      refine q_gi (ci := 8) (C := RX6) (T := TX6) (N := 6) (k := 3) hx hb hts iRX6 hown hK hp hk_9 (by decide) rfl rfl (by decide) rfl (Or.inl (hts (.fieldLink RX6 26 "RecordBench$TextReader" "pos" "I") (by decide +kernel))) (fun _ h9 => h9) dX6_takeNumber_70 ?_
      obtain ⟨r_13, st_11, hc_12, hf⟩ := bnd_some hf
      refine q_ci hp hA (va_runV (As := [.int (qI gs h0 3)]) (rest := []) ⟨hx, hb, hml, hown, hts⟩ (c_X6_isDigit l dC dI ka ad ct h0 (qI gs h0 3) _ _ _ hc_12 _) (cwV 1 hts gq_X6_takeNumber_X6_isDigit_93 rfl rfl rfl (by decide +kernel) ⟨Nat.le_of_ble_eq_true rfl, Nat.le_of_ble_eq_true rfl⟩) ⟨PrC.blind _, q_rv8 hK hp hC hk_9, q_pre hp hK hN hZ hC hR hL hA⟩ rfl rfl hl.1 rfl (lv_room (Nat.le_of_ble_eq_true rfl)) dX6_takeNumber_73 ⟨Nat.le_of_ble_eq_true rfl, Nat.le_of_ble_eq_true rfl⟩) (fun H locs hp => ?_)
      have hk_9 : qk st_11 h0 = 9 := by rw [(mo_X6_isDigit h0 (qI gs h0 3) _ _ _ hc_12).2.2.1]; exact hk_9
      refine lv_if_eq (tgt := 89) hx hb dX6_takeNumber_76 (by decide) (fun c_14 => ?_) (fun c_14 => ?_)
      · have hf := pif_t c_14 hf
        refine lv_iload hx hb dX6_takeNumber_89 (lv_at hl 4 rfl) ?_
        refine lv_iconst (v := 1) hx hb dX6_takeNumber_91 (by decide) ?_
        refine lv_icmp_lt (tgt := 102) hx hb dX6_takeNumber_92 (by decide) (fun c_15 => ?_) (fun c_15 => ?_)
        · have hf := pif_t c_15 hf
          exact J102 (l3, st_11) _ _ _ ⟨hf, hp, (lv_sub hl [0, 3] rfl)⟩
        · have hf := pif_f c_15 hf
          refine lv_iload hx hb dX6_takeNumber_95 (lv_at hl 4 rfl) ?_
          refine lv_bipush (v := 30) hx hb dX6_takeNumber_97 (by decide) ?_
          refine lv_icmp_le (tgt := 109) hx hb dX6_takeNumber_99 (by decide) (fun c_16 => ?_) (fun c_16 => ?_)
          · have hf := pif_t c_16 hf
            refine o_aload_n hx hb dX6_takeNumber_109 rfl (lv_at hl 2 rfl) ?_
            refine lv_iload hx hb dX6_takeNumber_110 (lv_at hl 4 rfl) ?_
            obtain ⟨a_17, ha_18, hf⟩ := ono_some hf
            refine o_at1 ha_18 ?_
            obtain ⟨hk_19, hf⟩ := gd_some hf
            obtain ⟨r_22, st_20, hc_21, hf⟩ := bnd_some hf
            refine q_cq hp hA (va_runV (As := [.int l4]) (rest := []) ⟨hx, hb, hml, hown, hts⟩ (c_X1_fieldAt l dC dI ka ad ct a_17 l4 _ _ _ hc_21 _) (cwV 1 hts gq_X6_takeNumber_X1_fieldAt_101 rfl rfl rfl (by decide +kernel) ⟨Nat.le_of_ble_eq_true rfl, Nat.le_of_ble_eq_true rfl⟩) ⟨PrC.blind _, q_rv3 hK hp hC hk_19, q_pre hp hK hN hZ hC hR hL hA⟩ rfl rfl hl.1 rfl (lv_room (Nat.le_of_ble_eq_true rfl)) dX6_takeNumber_112 ⟨Nat.le_of_ble_eq_true rfl, Nat.le_of_ble_eq_true rfl⟩) (fun H locs hp => ?_)
            have hk_9 : qk st_20 h0 = 9 := by rw [(mo_X1_fieldAt a_17 l4 _ _ _ hc_21).2.2.1]; exact hk_9
            have hk_19 : qk st_20 a_17 = 4 := by rw [(mo_X1_fieldAt a_17 l4 _ _ _ hc_21).2.2.1]; exact hk_19
            refine o_ifnull (tgt := 125) hx hb dX6_takeNumber_115 (by decide) (fun c_23 => ?_) (fun c_23 => ?_)
            · have hf := pif_t c_23 hf
              refine o_aload_n hx hb dX6_takeNumber_125 rfl (lv_at hl 1 rfl) ?_
              refine lv_iload hx hb dX6_takeNumber_126 (lv_at hl 4 rfl) ?_
              obtain ⟨a_24, ha_25, hf⟩ := ono_some hf
              refine o_at1 ha_25 ?_
              obtain ⟨hk_26, hf⟩ := gd_some hf
              refine q_pi (ci := 2) (C := RX0) (T := TX0) (N := 7) (k := 0) (v := l4) (ty := .int) hx hb hts iRX0 tyX0 tyX0_ok nmX0 hown hK hp hk_26 (by decide) rfl rfl (by decide) rfl (Or.inr ⟨_, va_Nw.use rfl (hN.1 (.fieldLinkNest RX6 105 "RecordBench$Field" "number" "I" "RecordBench") (by decide +kernel))⟩) (fun _ h9 => h9) rfl (by decide +kernel) rfl rfl dX6_takeNumber_128 (fun H locs hp => ?_)
              obtain ⟨st_27, est_27, hf⟩ := nam_some hf
              rw [← est_27] at hp
              have hk_9 : qk st_27 h0 = 9 := by rw [est_27]; exact hk_9
              have hk_19 : qk st_27 a_17 = 4 := by rw [est_27]; exact hk_19
              have hk_26 : qk st_27 a_24 = 3 := by rw [est_27]; exact hk_26
              refine lv_aload_n hx hb dX6_takeNumber_131 rfl (lv_at hl 0 rfl) ?_
              refine lv_aload_n hx hb dX6_takeNumber_132 rfl (lv_at hl 0 rfl) ?_
              refine q_gi (ci := 8) (C := RX6) (T := TX6) (N := 6) (k := 3) hx hb hts iRX6 hown hK hp hk_9 (by decide) rfl rfl (by decide) rfl (Or.inl (hts (.fieldLink RX6 26 "RecordBench$TextReader" "pos" "I") (by decide +kernel))) (fun _ h9 => h9) dX6_takeNumber_133 ?_
              obtain ⟨r_30, st_28, hc_29, hf⟩ := bnd_some hf
              refine q_ci hp hA (va_runV (As := [.int (qI st_27 h0 3)]) (rest := []) ⟨hx, hb, hml, hown, hts⟩ (c_X6_isLetter l dC dI ka ad ct h0 (qI st_27 h0 3) _ _ _ hc_29 _) (cwV 1 hts gq_X6_takeNumber_X6_isLetter_108 rfl rfl rfl (by decide +kernel) ⟨Nat.le_of_ble_eq_true rfl, Nat.le_of_ble_eq_true rfl⟩) ⟨PrC.blind _, q_rv8 hK hp hC hk_9, q_pre hp hK hN hZ hC hR hL hA⟩ rfl rfl hl.1 rfl (lv_room (Nat.le_of_ble_eq_true rfl)) dX6_takeNumber_136 ⟨Nat.le_of_ble_eq_true rfl, Nat.le_of_ble_eq_true rfl⟩) (fun H locs hp => ?_)
              have hk_9 : qk st_28 h0 = 9 := by rw [(mo_X6_isLetter h0 (qI st_27 h0 3) _ _ _ hc_29).2.2.1]; exact hk_9
              have hk_19 : qk st_28 a_17 = 4 := by rw [(mo_X6_isLetter h0 (qI st_27 h0 3) _ _ _ hc_29).2.2.1]; exact hk_19
              have hk_26 : qk st_28 a_24 = 3 := by rw [(mo_X6_isLetter h0 (qI st_27 h0 3) _ _ _ hc_29).2.2.1]; exact hk_26
              refine lv_if_eq (tgt := 154) hx hb dX6_takeNumber_139 (by decide) (fun c_31 => ?_) (fun c_31 => ?_)
              · have hf := pif_t c_31 hf
                refine lv_iconst (v := 1) hx hb dX6_takeNumber_154 (by decide) ?_
                refine lv_goto (tgt := 159) hx hb dX6_takeNumber_155 (by decide) ?_
                obtain ⟨e1, e2⟩ := pr_some hf
                exact W.zret (v := 1) hx hb hr rfl (fun t ht hW => ⟨⟨1, (), rfl, e1, Cp.end e2 hp ht⟩, hp.2.1.F ht⟩) hp.2.1.2.2 dX6_takeNumber_159
              · have hf := pif_f c_31 hf
                refine lv_aload_n hx hb dX6_takeNumber_142 rfl (lv_at hl 0 rfl) ?_
                refine lv_iconst (v := 1) hx hb dX6_takeNumber_143 (by decide) ?_
                refine lv_aload_n hx hb dX6_takeNumber_144 rfl (lv_at hl 0 rfl) ?_
                refine q_gi (ci := 8) (C := RX6) (T := TX6) (N := 6) (k := 3) hx hb hts iRX6 hown hK hp hk_9 (by decide) rfl rfl (by decide) rfl (Or.inl (hts (.fieldLink RX6 26 "RecordBench$TextReader" "pos" "I") (by decide +kernel))) (fun _ h9 => h9) dX6_takeNumber_145 ?_
                obtain ⟨r_34, st_32, hc_33, hf⟩ := bnd_some hf
                refine q_ci hp hA (va_runV (As := [.int 1, .int (qI st_28 h0 3)]) (rest := []) ⟨hx, hb, hml, hown, hts⟩ (c_X6_refuse l dC dI ka ad ct h0 1 (qI st_28 h0 3) _ _ _ hc_33 _) (cwV 2 hts gq_X6_takeNumber_X6_refuse_48 rfl rfl rfl (by decide +kernel) ⟨Nat.le_of_ble_eq_true rfl, Nat.le_of_ble_eq_true rfl⟩) ⟨PrC.blind _, q_rv8 hK hp hC hk_9, q_pre hp hK hN hZ hC hR hL hA⟩ rfl rfl hl.1 rfl (lv_room (Nat.le_of_ble_eq_true rfl)) dX6_takeNumber_148 ⟨Nat.le_of_ble_eq_true rfl, Nat.le_of_ble_eq_true rfl⟩) (fun H locs hp => ?_)
                have hk_9 : qk st_32 h0 = 9 := by rw [(mo_X6_refuse h0 1 (qI st_28 h0 3) _ _ _ hc_33).2.2.1]; exact hk_9
                have hk_19 : qk st_32 a_17 = 4 := by rw [(mo_X6_refuse h0 1 (qI st_28 h0 3) _ _ _ hc_33).2.2.1]; exact hk_19
                have hk_26 : qk st_32 a_24 = 3 := by rw [(mo_X6_refuse h0 1 (qI st_28 h0 3) _ _ _ hc_33).2.2.1]; exact hk_26
                refine lv_if_eq (tgt := 158) hx hb dX6_takeNumber_151 (by decide) (fun c_35 => ?_) (fun c_35 => ?_)
                · have hf := pif_t c_35 hf
                  refine lv_iconst (v := 0) hx hb dX6_takeNumber_158 (by decide) ?_
                  obtain ⟨e1, e2⟩ := pr_some hf
                  exact W.zret (v := 0) hx hb hr rfl (fun t ht hW => ⟨⟨0, (), rfl, e1, Cp.end e2 hp ht⟩, hp.2.1.F ht⟩) hp.2.1.2.2 dX6_takeNumber_159
                · have hf := pif_f c_35 hf
                  refine lv_iconst (v := 1) hx hb dX6_takeNumber_154 (by decide) ?_
                  refine lv_goto (tgt := 159) hx hb dX6_takeNumber_155 (by decide) ?_
                  obtain ⟨e1, e2⟩ := pr_some hf
                  exact W.zret (v := 1) hx hb hr rfl (fun t ht hW => ⟨⟨1, (), rfl, e1, Cp.end e2 hp ht⟩, hp.2.1.F ht⟩) hp.2.1.2.2 dX6_takeNumber_159
            · have hf := pif_f c_23 hf
              refine lv_aload_n hx hb dX6_takeNumber_118 rfl (lv_at hl 0 rfl) ?_
              refine lv_iconst (v := 3) hx hb dX6_takeNumber_119 (by decide) ?_
              refine lv_iload_n hx hb dX6_takeNumber_120 rfl (lv_at hl 3 rfl) ?_
              obtain ⟨r_38, st_36, hc_37, hf⟩ := bnd_some hf
              refine q_ci hp hA (va_runV (As := [.int 3, .int l3]) (rest := []) ⟨hx, hb, hml, hown, hts⟩ (c_X6_refuse l dC dI ka ad ct h0 3 l3 _ _ _ hc_37 _) (cwV 2 hts gq_X6_takeNumber_X6_refuse_48 rfl rfl rfl (by decide +kernel) ⟨Nat.le_of_ble_eq_true rfl, Nat.le_of_ble_eq_true rfl⟩) ⟨PrC.blind _, q_rv8 hK hp hC hk_9, q_pre hp hK hN hZ hC hR hL hA⟩ rfl rfl hl.1 rfl (lv_room (Nat.le_of_ble_eq_true rfl)) dX6_takeNumber_121 ⟨Nat.le_of_ble_eq_true rfl, Nat.le_of_ble_eq_true rfl⟩) (fun H locs hp => ?_)
              have hk_9 : qk st_36 h0 = 9 := by rw [(mo_X6_refuse h0 3 l3 _ _ _ hc_37).2.2.1]; exact hk_9
              have hk_19 : qk st_36 a_17 = 4 := by rw [(mo_X6_refuse h0 3 l3 _ _ _ hc_37).2.2.1]; exact hk_19
              obtain ⟨hz, hf⟩ := gd_some hf
              obtain ⟨e1, e2⟩ := pr_some hf
              exact W.zret (v := r_38) hx hb hr hz (fun t ht hW => ⟨⟨r_38, (), rfl, e1, Cp.end e2 hp ht⟩, hp.2.1.F ht⟩) hp.2.1.2.2 dX6_takeNumber_124
          · have hf := pif_f c_16 hf
            exact J102 (l3, st_11) _ _ _ ⟨hf, hp, (lv_sub hl [0, 3] rfl)⟩
      · have hf := pif_f c_14 hf
        exact J79 st_11 _ _ _ ⟨hf, hp, (lv_sub hl [0] rfl)⟩
  refine W_lp (fun n11 (u : (Option Nat) × (Option Nat) × Int32 × Int32 × Int32 × CS) H locs ls => match u with | (l1, l2, l3, l4, l5, gs) => fX6_takeNumber_11 h0 n11 l1 l2 l3 l4 l5 gs = some (r, st') ∧ Cp (dC, dI) ka ad ct A s.heap gs H locs ∧ lv_has ls 6 [(0, .ref (ad h0)), (1, va_rf (Option.map ad l1)), (2, va_rf (Option.map ad l2)), (3, .int l3), (4, .int l4), (5, .int l5)]) (fun (u : (Option Nat) × (Option Nat) × Int32 × Int32 × Int32 × CS) ls => match u with | (l1, l2, l3, l4, l5, gs) => F0 m 11 ls []) ?_ ?_ (fun J11 => ?_)
  · intro u H locs ls hu
    obtain ⟨l1, l2, l3, l4, l5, gs⟩ := u
    obtain ⟨hf, hp, hl⟩ := hu
    rw [fX6_takeNumber_11_z] at hf
    cases hf
  · intro n11 ih11 u H locs ls hu
    obtain ⟨l1, l2, l3, l4, l5, gs⟩ := u
    obtain ⟨hf, hp, hl⟩ := hu
    show W p l e _ s m _ below meth c _ _ _ _ _ (F0 m 11 ls [])
    rw [fX6_takeNumber_11_s] at hf
    refine lv_iload hx hb dX6_takeNumber_11 (lv_at hl 5 rfl) ?_
    refine lv_iconst (v := 2) hx hb dX6_takeNumber_13 (by decide) ?_
    refine lv_icmp_ge (tgt := 60) hx hb dX6_takeNumber_14 (by decide) (fun c_39 => ?_) (fun c_39 => ?_)
    · have hf := pif_t c_39 hf
      exact J60 (l1, l2, l3, l4, gs) _ _ _ ⟨hf, hp, (lv_sub hl [0, 1, 2, 3, 4] rfl)⟩
    · have hf := pif_f c_39 hf
      refine lv_aload_n hx hb dX6_takeNumber_17 rfl (lv_at hl 0 rfl) ?_
      refine lv_aload_n hx hb dX6_takeNumber_18 rfl (lv_at hl 0 rfl) ?_
      obtain ⟨hk_40, hf⟩ := gd_some hf
      refine q_gi (ci := 8) (C := RX6) (T := TX6) (N := 6) (k := 3) hx hb hts iRX6 hown hK hp hk_40 (by decide) rfl rfl (by decide) rfl (Or.inl (hts (.fieldLink RX6 26 "RecordBench$TextReader" "pos" "I") (by decide +kernel))) (fun _ h9 => h9) dX6_takeNumber_19 ?_
      obtain ⟨r_43, st_41, hc_42, hf⟩ := bnd_some hf
      refine q_ci hp hA (va_runV (As := [.int (qI gs h0 3)]) (rest := []) ⟨hx, hb, hml, hown, hts⟩ (c_X6_isDigit l dC dI ka ad ct h0 (qI gs h0 3) _ _ _ hc_42 _) (cwV 1 hts gq_X6_takeNumber_X6_isDigit_93 rfl rfl rfl (by decide +kernel) ⟨Nat.le_of_ble_eq_true rfl, Nat.le_of_ble_eq_true rfl⟩) ⟨PrC.blind _, q_rv8 hK hp hC hk_40, q_pre hp hK hN hZ hC hR hL hA⟩ rfl rfl hl.1 rfl (lv_room (Nat.le_of_ble_eq_true rfl)) dX6_takeNumber_22 ⟨Nat.le_of_ble_eq_true rfl, Nat.le_of_ble_eq_true rfl⟩) (fun H locs hp => ?_)
      have hk_40 : qk st_41 h0 = 9 := by rw [(mo_X6_isDigit h0 (qI gs h0 3) _ _ _ hc_42).2.2.1]; exact hk_40
      refine lv_if_eq (tgt := 60) hx hb dX6_takeNumber_25 (by decide) (fun c_44 => ?_) (fun c_44 => ?_)
      · have hf := pif_t c_44 hf
        exact J60 (l1, l2, l3, l4, st_41) _ _ _ ⟨hf, hp, (lv_sub hl [0, 1, 2, 3, 4] rfl)⟩
      · have hf := pif_f c_44 hf
        refine lv_iload hx hb dX6_takeNumber_28 (lv_at hl 4 rfl) ?_
        refine lv_bipush (v := 10) hx hb dX6_takeNumber_30 (by decide) ?_
        refine lv_imul hx hb dX6_takeNumber_32 ?_
        refine lv_aload_n hx hb dX6_takeNumber_33 rfl (lv_at hl 0 rfl) ?_
        refine lv_aload_n hx hb dX6_takeNumber_34 rfl (lv_at hl 0 rfl) ?_
        refine q_gi (ci := 8) (C := RX6) (T := TX6) (N := 6) (k := 3) hx hb hts iRX6 hown hK hp hk_40 (by decide) rfl rfl (by decide) rfl (Or.inl (hts (.fieldLink RX6 26 "RecordBench$TextReader" "pos" "I") (by decide +kernel))) (fun _ h9 => h9) dX6_takeNumber_35 ?_
        obtain ⟨r_47, st_45, hc_46, hf⟩ := bnd_some hf
        refine q_ci hp hA (va_runV (As := [.int (qI st_41 h0 3)]) (rest := [.int (l4 * 10)]) ⟨hx, hb, hml, hown, hts⟩ (c_X6_digitAt l dC dI ka ad ct h0 (qI st_41 h0 3) _ _ _ hc_46 _) (cwV 1 hts gq_X6_takeNumber_X6_digitAt_97 rfl rfl rfl (by decide +kernel) ⟨Nat.le_of_ble_eq_true rfl, Nat.le_of_ble_eq_true rfl⟩) ⟨PrC.blind _, q_rv8 hK hp hC hk_40, q_pre hp hK hN hZ hC hR hL hA⟩ rfl rfl hl.1 rfl (lv_room (Nat.le_of_ble_eq_true rfl)) dX6_takeNumber_38 ⟨Nat.le_of_ble_eq_true rfl, Nat.le_of_ble_eq_true rfl⟩) (fun H locs hp => ?_)
        have hk_40 : qk st_45 h0 = 9 := by rw [(mo_X6_digitAt h0 (qI st_41 h0 3) _ _ _ hc_46).2.2.1]; exact hk_40
        refine lv_iadd hx hb dX6_takeNumber_41 ?_
        obtain ⟨v_48, ev_48, hf⟩ := nam_some hf
        refine W_toi (y := v_48) ev_48.symm ?_
        refine lv_istore (i := 4) (lv' := [(4, .int v_48), (0, .ref (ad h0)), (1, va_rf (Option.map ad l1)), (2, va_rf (Option.map ad l2)), (3, .int l3), (5, .int l5)]) hx hb dX6_takeNumber_42 hl (by decide) rfl (fun ls hl => ?_)
        refine lv_aload_n hx hb dX6_takeNumber_44 rfl (lv_at hl 1 rfl) ?_
        refine lv_dup hx hb dX6_takeNumber_45 rfl ?_
        refine q_gi (ci := 8) (C := RX6) (T := TX6) (N := 6) (k := 3) hx hb hts iRX6 hown hK hp hk_40 (by decide) rfl rfl (by decide) rfl (Or.inl (hts (.fieldLink RX6 26 "RecordBench$TextReader" "pos" "I") (by decide +kernel))) (fun _ h9 => h9) dX6_takeNumber_46 ?_
        refine lv_iconst (v := 1) hx hb dX6_takeNumber_49 (by decide) ?_
        refine lv_iadd hx hb dX6_takeNumber_50 ?_
        refine q_pi (ci := 8) (C := RX6) (T := TX6) (N := 6) (k := 3) (v := (qI st_45 h0 3) + 1) (ty := .int) hx hb hts iRX6 tyX6 tyX6_ok nmX6 hown hK hp hk_40 (by decide) rfl rfl (by decide) rfl (Or.inl (hts (.fieldLink RX6 26 "RecordBench$TextReader" "pos" "I") (by decide +kernel))) (fun _ h9 => h9) rfl (by decide +kernel) rfl rfl dX6_takeNumber_51 (fun H locs hp => ?_)
        obtain ⟨st_49, est_49, hf⟩ := nam_some hf
        rw [← est_49] at hp
        have hk_40 : qk st_49 h0 = 9 := by rw [est_49]; exact hk_40
        obtain ⟨v_50, ev_50, hf⟩ := nam_some hf
        refine lv_iinc (v := v_50) (lv' := [(5, .int v_50), (4, .int v_48), (0, .ref (ad h0)), (1, va_rf (Option.map ad l1)), (2, va_rf (Option.map ad l2)), (3, .int l3)]) hx hb dX6_takeNumber_54 hl (k := 5) rfl ev_50.symm (by decide) rfl (fun ls hl => ?_)
        refine lv_goto (tgt := 11) hx hb dX6_takeNumber_57 (by decide) ?_
        exact ih11 (l1, l2, l3, v_48, v_50, st_49) _ _ _ ⟨hf, hp, (lv_sub hl [2, 3, 4, 5, 1, 0] rfl)⟩
  unfold fX6_takeNumber at hf
  refine lv_aload_n hx hb dX6_takeNumber_0 rfl (lv_at hl 0 rfl) ?_
  obtain ⟨hk_51, hf⟩ := gd_some hf
  refine q_gi (ci := 8) (C := RX6) (T := TX6) (N := 6) (k := 3) hx hb hts iRX6 hown hK hp hk_51 (by decide) rfl rfl (by decide) rfl (Or.inl (hts (.fieldLink RX6 26 "RecordBench$TextReader" "pos" "I") (by decide +kernel))) (fun _ h9 => h9) dX6_takeNumber_1 ?_
  obtain ⟨v_52, ev_52, hf⟩ := nam_some hf
  refine W_toi (y := v_52) ev_52.symm ?_
  refine lv_istore_n (i := 3) (lv' := [(3, .int v_52), (0, .ref (ad h0)), (1, va_rf (Option.map ad p0)), (2, va_rf (Option.map ad p1))]) hx hb dX6_takeNumber_4 rfl hl (by decide) (by simp [rf_cat, vc_i, vc_l, vc_r, vc_n]) (fun ls hl => ?_)
  refine lv_iconst (v := 0) hx hb dX6_takeNumber_5 (by decide) ?_
  refine lv_istore (i := 4) (lv' := [(4, .int 0), (3, .int v_52), (0, .ref (ad h0)), (1, va_rf (Option.map ad p0)), (2, va_rf (Option.map ad p1))]) hx hb dX6_takeNumber_6 hl (by decide) rfl (fun ls hl => ?_)
  refine lv_iconst (v := 0) hx hb dX6_takeNumber_8 (by decide) ?_
  refine lv_istore (i := 5) (lv' := [(5, .int 0), (4, .int 0), (3, .int v_52), (0, .ref (ad h0)), (1, va_rf (Option.map ad p0)), (2, va_rf (Option.map ad p1))]) hx hb dX6_takeNumber_9 hl (by decide) rfl (fun ls hl => ?_)
  exact J11 fuel (p0, p1, v_52, 0, 0, st) _ _ _ ⟨hf, hp, (lv_sub hl [3, 4, 5, 2, 1, 0] rfl)⟩
noncomputable def fX6_takeRec_118 (h0 : Nat)  (gs : CS) : Option (Int32 × CS) := gd (qk gs h0 = 9) (bnd (fX6_refuse h0 1 (qI gs h0 3) gs) (fun r_4 st_2 => pif (r_4 = 0) (some ((0 : Int32), st_2)) (some ((1 : Int32), st_2))))
set_option maxHeartbeats 1000000 in
theorem mo_X6_takeRec_118 (h0 : Nat)   (gs : CS) (r : Int32) (st' : CS) (hf : fX6_takeRec_118 h0 gs = some (r, st')) : Ke gs st' := by
  unfold fX6_takeRec_118 at hf
  have hm : Ke gs gs := Ke.rf
  obtain ⟨hk_1, hf⟩ := gd_some hf
  obtain ⟨r_4, st_2, hc_3, hf⟩ := bnd_some hf
  have hm := hm.tr (mo_X6_refuse h0 1 (qI gs h0 3) _ _ _ hc_3)
  rcases pif_or hf with ⟨c_5, hf⟩ | ⟨c_5, hf⟩
  · obtain ⟨e1, e2⟩ := pr_some hf
    exact e2 ▸ hm
  · obtain ⟨e1, e2⟩ := pr_some hf
    exact e2 ▸ hm
noncomputable def fX6_takeRec_71 (h0 : Nat)  (gs : CS) : Option (Int32 × CS) := gd (qk gs h0 = 9) (bnd (fX6_refuse h0 2 (qI gs h0 3) gs) (fun r_9 st_7 => gd (narrow .boolean (.int r_9) = .int r_9) (some (r_9, st_7))))
set_option maxHeartbeats 1000000 in
theorem mo_X6_takeRec_71 (h0 : Nat)   (gs : CS) (r : Int32) (st' : CS) (hf : fX6_takeRec_71 h0 gs = some (r, st')) : Ke gs st' := by
  unfold fX6_takeRec_71 at hf
  have hm : Ke gs gs := Ke.rf
  obtain ⟨hk_6, hf⟩ := gd_some hf
  obtain ⟨r_9, st_7, hc_8, hf⟩ := bnd_some hf
  have hm := hm.tr (mo_X6_refuse h0 2 (qI gs h0 3) _ _ _ hc_8)
  obtain ⟨hz, hf⟩ := gd_some hf
  obtain ⟨e1, e2⟩ := pr_some hf
  exact e2 ▸ hm
noncomputable def fX6_takeRec (h0 : Nat) (p0 : Option Nat) (p1 : Int32) (st : CS) : Option (Int32 × CS) := gd (qk st h0 = 9) (bnd (fX6_isDigit h0 (qI st h0 3) st) (fun r_13 st_11 => pif (r_13 = 0) (bnv (fX6_skipBlanks h0 st_11) (fun st_15 => bnd (fX6_isDigit h0 (qI st_15 h0 3) st_15) (fun r_20 st_18 => pif (r_20 = 0) (bnd (fX6_refuse h0 1 (qI st_18 h0 3) st_18) (fun r_45 st_43 => gd (narrow .boolean (.int r_45) = .int r_45) (some (r_45, st_43)))) (bnd (fX6_digitAt h0 (qI st_18 h0 3) st_18) (fun r_24 st_22 => pif (p1 ≤ r_24) (fX6_takeRec_71 h0 st_22) (bnd (fX8_makeOf (qP st_22 h0 1) r_24 st_22) (fun r_28 st_26 => pif (r_28 = none) (fX6_takeRec_71 h0 st_26) (ono p0 (fun a_30 => gd (qk st_26 a_30 = 3) (nam (wI st_26 a_30 3 r_24) (fun st_33 => nam (wI st_33 h0 3 ((qI st_33 h0 3) + 1)) (fun st_34 => bnd (fX6_isDigit h0 (qI st_34 h0 3) st_34) (fun r_37 st_35 => pif (r_37 = 0) (bnd (fX6_isLetter h0 (qI st_35 h0 3) st_35) (fun r_41 st_39 => pif (r_41 = 0) (some ((1 : Int32), st_39)) (fX6_takeRec_118 h0 st_39))) (fX6_takeRec_118 h0 st_35)))))))))))))) (bnd (fX6_refuse h0 1 (qI st_11 h0 3) st_11) (fun r_48 st_46 => gd (narrow .boolean (.int r_48) = .int r_48) (some (r_48, st_46))))))
set_option maxHeartbeats 1000000 in
theorem mo_X6_takeRec (h0 : Nat) (p0 : Option Nat) (p1 : Int32) (st : CS) (r : Int32) (st' : CS) (hf : fX6_takeRec h0 p0 p1 st = some (r, st')) : Ke st st' := by
  unfold fX6_takeRec at hf
  have hm : Ke st st := Ke.rf
  obtain ⟨hk_10, hf⟩ := gd_some hf
  obtain ⟨r_13, st_11, hc_12, hf⟩ := bnd_some hf
  have hm := hm.tr (mo_X6_isDigit h0 (qI st h0 3) _ _ _ hc_12)
  rcases pif_or hf with ⟨c_14, hf⟩ | ⟨c_14, hf⟩
  · obtain ⟨st_15, hc_16, hf⟩ := bnv_some hf
    have hm := hm.tr (mo_X6_skipBlanks h0 _ _ hc_16)
    obtain ⟨r_20, st_18, hc_19, hf⟩ := bnd_some hf
    have hm := hm.tr (mo_X6_isDigit h0 (qI st_15 h0 3) _ _ _ hc_19)
    rcases pif_or hf with ⟨c_21, hf⟩ | ⟨c_21, hf⟩
    · obtain ⟨r_45, st_43, hc_44, hf⟩ := bnd_some hf
      have hm := hm.tr (mo_X6_refuse h0 1 (qI st_18 h0 3) _ _ _ hc_44)
      obtain ⟨hz, hf⟩ := gd_some hf
      obtain ⟨e1, e2⟩ := pr_some hf
      exact e2 ▸ hm
    · obtain ⟨r_24, st_22, hc_23, hf⟩ := bnd_some hf
      have hm := hm.tr (mo_X6_digitAt h0 (qI st_18 h0 3) _ _ _ hc_23)
      rcases pif_or hf with ⟨c_25, hf⟩ | ⟨c_25, hf⟩
      · exact hm.tr (mo_X6_takeRec_71 h0 st_22 _ _ hf)
      · obtain ⟨r_28, st_26, hc_27, hf⟩ := bnd_some hf
        have hm := hm.tr (mo_X8_makeOf (qP st_22 h0 1) r_24 _ _ _ hc_27)
        rcases pif_or hf with ⟨c_29, hf⟩ | ⟨c_29, hf⟩
        · exact hm.tr (mo_X6_takeRec_71 h0 st_26 _ _ hf)
        · obtain ⟨a_30, ha_31, hf⟩ := ono_some hf
          obtain ⟨hk_32, hf⟩ := gd_some hf
          obtain ⟨st_33, est_33, hf⟩ := nam_some hf
          have hm := hm.wI est_33
          obtain ⟨st_34, est_34, hf⟩ := nam_some hf
          have hm := hm.wI est_34
          obtain ⟨r_37, st_35, hc_36, hf⟩ := bnd_some hf
          have hm := hm.tr (mo_X6_isDigit h0 (qI st_34 h0 3) _ _ _ hc_36)
          rcases pif_or hf with ⟨c_38, hf⟩ | ⟨c_38, hf⟩
          · obtain ⟨r_41, st_39, hc_40, hf⟩ := bnd_some hf
            have hm := hm.tr (mo_X6_isLetter h0 (qI st_35 h0 3) _ _ _ hc_40)
            rcases pif_or hf with ⟨c_42, hf⟩ | ⟨c_42, hf⟩
            · obtain ⟨e1, e2⟩ := pr_some hf
              exact e2 ▸ hm
            · exact hm.tr (mo_X6_takeRec_118 h0 st_39 _ _ hf)
          · exact hm.tr (mo_X6_takeRec_118 h0 st_35 _ _ hf)
  · obtain ⟨r_48, st_46, hc_47, hf⟩ := bnd_some hf
    have hm := hm.tr (mo_X6_refuse h0 1 (qI st_11 h0 3) _ _ _ hc_47)
    obtain ⟨hz, hf⟩ := gd_some hf
    obtain ⟨e1, e2⟩ := pr_some hf
    exact e2 ▸ hm
def wq_X6_takeRec : List Cond := .code yX6_takeRec cX6_takeRec 4 (some .boolean) :: (([.fieldLink RX6 26 "RecordBench$TextReader" "pos" "I", .fieldLink RX6 15 "RecordBench$TextReader" "makes" "[LRecordBench$Make;", .methodLink RX6 48 yX6_refuse, .instanceMethod yX6_refuse, .selects RX6 yX6_refuse yX6_refuse, .initialized RX6, .methodLink RX6 93 yX6_isDigit, .instanceMethod yX6_isDigit, .selects RX6 yX6_isDigit yX6_isDigit, .methodLink RX6 39 yX6_skipBlanks, .instanceMethod yX6_skipBlanks, .selects RX6 yX6_skipBlanks yX6_skipBlanks, .methodLink RX6 97 yX6_digitAt, .instanceMethod yX6_digitAt, .selects RX6 yX6_digitAt yX6_digitAt, .static yX8_makeOf, .initialized RX8, .methodLink RX6 108 yX6_isLetter, .instanceMethod yX6_isLetter, .selects RX6 yX6_isLetter yX6_isLetter, .code yX6_refuse cX6_refuse 3 (some .boolean), .fieldLink RX6 30 "RecordBench$TextReader" "fault" "I", .fieldLink RX6 33 "RecordBench$TextReader" "place" "I", .code yX6_isDigit cX6_isDigit 3 (some .boolean), .fieldLink RX6 9 "RecordBench$TextReader" "tape" "LRecordBench$Row;", .methodLink RX6 150 yX5_byteAt, .instanceMethod yX5_byteAt, .selects RX5 yX5_byteAt yX5_byteAt, .initialized RX5, .code yX5_byteAt cX5_byteAt 2 (some .int), .fieldLink RX5 21 "RecordBench$Row" "size" "I", .fieldLink RX5 15 "RecordBench$Row" "bytes" "[I", .code yX6_skipBlanks cX6_skipBlanks 3 none, .methodLink RX6 42 yX5_size, .instanceMethod yX5_size, .selects RX5 yX5_size yX5_size, .methodLink RX6 189 yX6_isBlank, .static yX6_isBlank, .code yX5_size cX5_size 1 (some .int), .code yX6_isBlank cX6_isBlank 1 (some .boolean), .code yX6_digitAt cX6_digitAt 3 (some .int), .code yX8_makeOf cX8_makeOf 2 (some (.object "RecordBench$Make")), .code yX6_isLetter cX6_isLetter 3 (some .boolean)] : List Cond) ++ wsX60 ++ wsX00 ++ wsX50)
theorem gs_wq_X6_takeRec_wsX60 : GoodIn wq_X6_takeRec wsX60 := fun w h => ⟨List.mem_cons_of_mem _ (List.mem_append_left _ (List.mem_append_left _ (List.mem_append_right _ h))), (gt_wsX60 w h).2⟩
set_option maxRecDepth 20000 in
theorem gq_X6_takeRec_X6_refuse_48 : GoodIn wq_X6_takeRec (wsV RX6 48 RX6 yX6_refuse wq_X6_refuse) := goodIn_app (goodIn_r _ [3, 4, 5, 6] rfl rfl) (goodIn_ca (goodIn_r _ [21, 22, 23] rfl rfl) gs_wq_X6_takeRec_wsX60)
theorem gs_wq_X6_takeRec_wsX50 : GoodIn wq_X6_takeRec wsX50 := fun w h => ⟨List.mem_cons_of_mem _ (List.mem_append_right _ h), (gt_wsX50 w h).2⟩
set_option maxRecDepth 20000 in
theorem gq_X6_takeRec_X6_isDigit_93 : GoodIn wq_X6_takeRec (wsV RX6 93 RX6 yX6_isDigit wq_X6_isDigit) := goodIn_app (goodIn_r _ [7, 8, 9, 6] rfl rfl) (goodIn_ca (goodIn_ca (goodIn_r _ [24, 25, 26, 27, 28, 29, 30, 31, 32] rfl rfl) gs_wq_X6_takeRec_wsX60) gs_wq_X6_takeRec_wsX50)
set_option maxRecDepth 20000 in
theorem gq_X6_takeRec_X6_skipBlanks_39 : GoodIn wq_X6_takeRec (wsV RX6 39 RX6 yX6_skipBlanks wq_X6_skipBlanks) := goodIn_app (goodIn_r _ [10, 11, 12, 6] rfl rfl) (goodIn_ca (goodIn_ca (goodIn_r _ [33, 1, 25, 34, 35, 36, 29, 26, 27, 28, 37, 38, 6, 39, 31, 30, 32, 40] rfl rfl) gs_wq_X6_takeRec_wsX60) gs_wq_X6_takeRec_wsX50)
set_option maxRecDepth 20000 in
theorem gq_X6_takeRec_X6_digitAt_97 : GoodIn wq_X6_takeRec (wsV RX6 97 RX6 yX6_digitAt wq_X6_digitAt) := goodIn_app (goodIn_r _ [13, 14, 15, 6] rfl rfl) (goodIn_ca (goodIn_ca (goodIn_r _ [41, 25, 26, 27, 28, 29, 30, 31, 32] rfl rfl) gs_wq_X6_takeRec_wsX60) gs_wq_X6_takeRec_wsX50)
set_option maxRecDepth 20000 in
theorem gq_X6_takeRec_X8_makeOf_138 : GoodIn wq_X6_takeRec (wq_X8_makeOf) := (goodIn_r _ [42] rfl rfl)
set_option maxRecDepth 20000 in
theorem gq_X6_takeRec_X6_isLetter_108 : GoodIn wq_X6_takeRec (wsV RX6 108 RX6 yX6_isLetter wq_X6_isLetter) := goodIn_app (goodIn_r _ [18, 19, 20, 6] rfl rfl) (goodIn_ca (goodIn_ca (goodIn_r _ [43, 25, 26, 27, 28, 29, 30, 31, 32] rfl rfl) gs_wq_X6_takeRec_wsX60) gs_wq_X6_takeRec_wsX50)
set_option maxHeartbeats 4000000 in
set_option maxRecDepth 100000 in
theorem c_X6_takeRec (l : Launch) (dC : Nat → ClassId) (dI : Nat → Nat → Nat) (ka ad : Nat → Nat) (ct : Nat → ClassId) (h0 : Nat) (p0 : Option Nat) (p1 : Int32) (st st' : CS) (r : Int32) (hf : fX6_takeRec h0 p0 p1 st = some (r, st')) (sz : Nat) : Met l yX6_takeRec wq_X6_takeRec ({ frames := 2, cells := 0, slots := 0, locals := 51 }) (va_Pc [.ref (ad h0), va_rf (Option.map ad p0), .int p1] (PrC (dC, dI) ct ka ad st sz)) (va_Qi (fun r' (_ : Unit) => r' = r) (fun _ => CB (dC, dI) ct ka ad st' (aC ad st sz)) (aC ad st sz)) 0 0 (aC ad st sz) := by
  refine Met.ofW (cc := cX6_takeRec) (maxL := 4) (ret := (some .boolean)) (by decide) rfl ?_
  intro p e s m args below meth c s₁ B hml hv
  obtain ⟨rfl, hsz, hw0, hK, hN, hZ, hC, hR, hL, hw1, hw2⟩ := hv
  have hx := B.exec
  have hb := B.bytes
  have hr := B.returns
  have hts := atoms_spec (ws := wq_X6_takeRec) B.pre
  have hown : s.vm.findClass RX6 = some m.cls := findClass_of_methodNamed B.named
  have iRX6 : ∀ w ∈ u_ws RX6 TX6 6, w ∈ wq_X6_takeRec := fun w h => List.mem_cons_of_mem _ (List.mem_append_left _ (List.mem_append_left _ (List.mem_append_right _ h)))
  have iRX0 : ∀ w ∈ u_ws RX0 TX0 7, w ∈ wq_X6_takeRec := fun w h => List.mem_cons_of_mem _ (List.mem_append_left _ (List.mem_append_right _ h))
  subst hsz
  have hp : Cp (dC, dI) ka ad ct (aC ad st s.heap.size) s.heap st s.heap [] := ⟨fun i a b => ⟨hw0 i a b, Or.inl ⟨i, a, b, rfl⟩⟩, va_S.rf, hw1, hw2⟩
  generalize hAe : aC ad st s.heap.size = A at hp hZ hC ⊢
  have hA : ∀ q : Nat, s.heap.size ≤ q → A q := fun q h => by rw [← hAe]; exact Or.inr h
  have hl := lv_entry ([.ref (ad h0), va_rf (Option.map ad p0), .int p1]) (n := 4) (by simp [lg_sl, rf_cat, vc_i, vc_l, vc_r, vc_n])
  rw [lg_entry_eq]
  generalize (lg_sl ([.ref (ad h0), va_rf (Option.map ad p0), .int p1]) ++ List.replicate (4 - (lg_sl ([.ref (ad h0), va_rf (Option.map ad p0), .int p1])).length) Slot.unset).toArray = ls at hl ⊢
  have hl : lv_has ls 4 [(0, .ref (ad h0)), (1, va_rf (Option.map ad p0)), (2, .int p1)] := by simpa [lv_args, rf_cat, vc_i, vc_l, vc_r, vc_n] using hl
  refine W_blk (fun (gs : CS) H locs ls => fX6_takeRec_118 h0 gs = some (r, st') ∧ Cp (dC, dI) ka ad ct A s.heap gs H locs ∧ lv_has ls 4 [(0, .ref (ad h0))]) (fun (gs : CS) ls => F0 m 118 ls []) ?_ (fun J118 => ?_)
  · intro u H locs ls hu
    obtain ⟨gs, rfl⟩ : ∃ z, z = u := ⟨_, rfl⟩
    obtain ⟨hf, hp, hl⟩ := hu
    show W p l e _ s m _ below meth c _ _ _ _ _ (F0 m 118 ls [])
    unfold fX6_takeRec_118 at hf
    refine lv_aload_n hx hb dX6_takeRec_118 rfl (lv_at hl 0 rfl) ?_
    refine lv_iconst (v := 1) hx hb dX6_takeRec_119 (by decide) ?_
    refine lv_aload_n hx hb dX6_takeRec_120 rfl (lv_at hl 0 rfl) ?_
    obtain ⟨hk_1, hf⟩ := gd_some hf
    refine q_gi (ci := 8) (C := RX6) (T := TX6) (N := 6) (k := 3) hx hb hts iRX6 hown hK hp hk_1 (by decide) rfl rfl (by decide) rfl (Or.inl (hts (.fieldLink RX6 26 "RecordBench$TextReader" "pos" "I") (by decide +kernel))) (fun _ h9 => h9) dX6_takeRec_121 ?_
    obtain ⟨r_4, st_2, hc_3, hf⟩ := bnd_some hf
    refine q_ci hp hA (va_runV (As := [.int 1, .int (qI gs h0 3)]) (rest := []) ⟨hx, hb, hml, hown, hts⟩ (c_X6_refuse l dC dI ka ad ct h0 1 (qI gs h0 3) _ _ _ hc_3 _) (cwV 2 hts gq_X6_takeRec_X6_refuse_48 rfl rfl rfl (by decide +kernel) ⟨Nat.le_of_ble_eq_true rfl, Nat.le_of_ble_eq_true rfl⟩) ⟨PrC.blind _, q_rv8 hK hp hC hk_1, q_pre hp hK hN hZ hC hR hL hA⟩ rfl rfl hl.1 rfl (lv_room (Nat.le_of_ble_eq_true rfl)) dX6_takeRec_124 ⟨Nat.le_of_ble_eq_true rfl, Nat.le_of_ble_eq_true rfl⟩) (fun H locs hp => ?_)
    have hk_1 : qk st_2 h0 = 9 := by rw [(mo_X6_refuse h0 1 (qI gs h0 3) _ _ _ hc_3).2.2.1]; exact hk_1
    refine lv_if_eq (tgt := 134) hx hb dX6_takeRec_127 (by decide) (fun c_5 => ?_) (fun c_5 => ?_)
    · have hf := pif_t c_5 hf
      refine lv_iconst (v := 0) hx hb dX6_takeRec_134 (by decide) ?_
      obtain ⟨e1, e2⟩ := pr_some hf
      exact W.zret (v := 0) hx hb hr rfl (fun t ht hW => ⟨⟨0, (), rfl, e1, Cp.end e2 hp ht⟩, hp.2.1.F ht⟩) hp.2.1.2.2 dX6_takeRec_135
    · have hf := pif_f c_5 hf
      refine lv_iconst (v := 1) hx hb dX6_takeRec_130 (by decide) ?_
      refine lv_goto (tgt := 135) hx hb dX6_takeRec_131 (by decide) ?_
      obtain ⟨e1, e2⟩ := pr_some hf
      exact W.zret (v := 1) hx hb hr rfl (fun t ht hW => ⟨⟨1, (), rfl, e1, Cp.end e2 hp ht⟩, hp.2.1.F ht⟩) hp.2.1.2.2 dX6_takeRec_135
  refine W_blk (fun (gs : CS) H locs ls => fX6_takeRec_71 h0 gs = some (r, st') ∧ Cp (dC, dI) ka ad ct A s.heap gs H locs ∧ lv_has ls 4 [(0, .ref (ad h0))]) (fun (gs : CS) ls => F0 m 71 ls []) ?_ (fun J71 => ?_)
  · intro u H locs ls hu
    obtain ⟨gs, rfl⟩ : ∃ z, z = u := ⟨_, rfl⟩
    obtain ⟨hf, hp, hl⟩ := hu
    show W p l e _ s m _ below meth c _ _ _ _ _ (F0 m 71 ls [])
    unfold fX6_takeRec_71 at hf
    refine lv_aload_n hx hb dX6_takeRec_71 rfl (lv_at hl 0 rfl) ?_
    refine lv_iconst (v := 2) hx hb dX6_takeRec_72 (by decide) ?_
    refine lv_aload_n hx hb dX6_takeRec_73 rfl (lv_at hl 0 rfl) ?_
    obtain ⟨hk_6, hf⟩ := gd_some hf
    refine q_gi (ci := 8) (C := RX6) (T := TX6) (N := 6) (k := 3) hx hb hts iRX6 hown hK hp hk_6 (by decide) rfl rfl (by decide) rfl (Or.inl (hts (.fieldLink RX6 26 "RecordBench$TextReader" "pos" "I") (by decide +kernel))) (fun _ h9 => h9) dX6_takeRec_74 ?_
    obtain ⟨r_9, st_7, hc_8, hf⟩ := bnd_some hf
    refine q_ci hp hA (va_runV (As := [.int 2, .int (qI gs h0 3)]) (rest := []) ⟨hx, hb, hml, hown, hts⟩ (c_X6_refuse l dC dI ka ad ct h0 2 (qI gs h0 3) _ _ _ hc_8 _) (cwV 2 hts gq_X6_takeRec_X6_refuse_48 rfl rfl rfl (by decide +kernel) ⟨Nat.le_of_ble_eq_true rfl, Nat.le_of_ble_eq_true rfl⟩) ⟨PrC.blind _, q_rv8 hK hp hC hk_6, q_pre hp hK hN hZ hC hR hL hA⟩ rfl rfl hl.1 rfl (lv_room (Nat.le_of_ble_eq_true rfl)) dX6_takeRec_77 ⟨Nat.le_of_ble_eq_true rfl, Nat.le_of_ble_eq_true rfl⟩) (fun H locs hp => ?_)
    have hk_6 : qk st_7 h0 = 9 := by rw [(mo_X6_refuse h0 2 (qI gs h0 3) _ _ _ hc_8).2.2.1]; exact hk_6
    obtain ⟨hz, hf⟩ := gd_some hf
    obtain ⟨e1, e2⟩ := pr_some hf
    exact W.zret (v := r_9) hx hb hr hz (fun t ht hW => ⟨⟨r_9, (), rfl, e1, Cp.end e2 hp ht⟩, hp.2.1.F ht⟩) hp.2.1.2.2 dX6_takeRec_80
  unfold fX6_takeRec at hf
  refine lv_aload_n hx hb dX6_takeRec_0 rfl (lv_at hl 0 rfl) ?_
  refine lv_aload_n hx hb dX6_takeRec_1 rfl (lv_at hl 0 rfl) ?_
  obtain ⟨hk_10, hf⟩ := gd_some hf
  refine q_gi (ci := 8) (C := RX6) (T := TX6) (N := 6) (k := 3) hx hb hts iRX6 hown hK hp hk_10 (by decide) rfl rfl (by decide) rfl (Or.inl (hts (.fieldLink RX6 26 "RecordBench$TextReader" "pos" "I") (by decide +kernel))) (fun _ h9 => h9) dX6_takeRec_2 ?_
  obtain ⟨r_13, st_11, hc_12, hf⟩ := bnd_some hf
  refine q_ci hp hA (va_runV (As := [.int (qI st h0 3)]) (rest := []) ⟨hx, hb, hml, hown, hts⟩ (c_X6_isDigit l dC dI ka ad ct h0 (qI st h0 3) _ _ _ hc_12 _) (cwV 1 hts gq_X6_takeRec_X6_isDigit_93 rfl rfl rfl (by decide +kernel) ⟨Nat.le_of_ble_eq_true rfl, Nat.le_of_ble_eq_true rfl⟩) ⟨PrC.blind _, q_rv8 hK hp hC hk_10, q_pre hp hK hN hZ hC hR hL hA⟩ rfl rfl hl.1 rfl (lv_room (Nat.le_of_ble_eq_true rfl)) dX6_takeRec_5 ⟨Nat.le_of_ble_eq_true rfl, Nat.le_of_ble_eq_true rfl⟩) (fun H locs hp => ?_)
  have hk_10 : qk st_11 h0 = 9 := by rw [(mo_X6_isDigit h0 (qI st h0 3) _ _ _ hc_12).2.2.1]; exact hk_10
  refine lv_if_eq (tgt := 21) hx hb dX6_takeRec_8 (by decide) (fun c_14 => ?_) (fun c_14 => ?_)
  · have hf := pif_t c_14 hf
    refine lv_aload_n hx hb dX6_takeRec_21 rfl (lv_at hl 0 rfl) ?_
    obtain ⟨st_15, hc_16, hf⟩ := bnv_some hf
    refine q_cv hp hA (va_runV (As := []) (rest := []) ⟨hx, hb, hml, hown, hts⟩ (c_X6_skipBlanks l dC dI ka ad ct h0 _ _ hc_16 _) (cwV 0 hts gq_X6_takeRec_X6_skipBlanks_39 rfl rfl rfl (by decide +kernel) ⟨Nat.le_of_ble_eq_true rfl, Nat.le_of_ble_eq_true rfl⟩) ⟨PrC.blind _, q_rv8 hK hp hC hk_10, q_pre hp hK hN hZ hC hR hL hA⟩ rfl rfl hl.1 rfl (lv_room (Nat.le_of_ble_eq_true rfl)) dX6_takeRec_22 ⟨Nat.le_of_ble_eq_true rfl, Nat.le_of_ble_eq_true rfl⟩) (fun H locs hp => ?_)
    have hk_10 : qk st_15 h0 = 9 := by rw [(mo_X6_skipBlanks h0 _ _ hc_16).2.2.1]; exact hk_10
    refine lv_aload_n hx hb dX6_takeRec_25 rfl (lv_at hl 0 rfl) ?_
    refine lv_aload_n hx hb dX6_takeRec_26 rfl (lv_at hl 0 rfl) ?_
    refine q_gi (ci := 8) (C := RX6) (T := TX6) (N := 6) (k := 3) hx hb hts iRX6 hown hK hp hk_10 (by decide) rfl rfl (by decide) rfl (Or.inl (hts (.fieldLink RX6 26 "RecordBench$TextReader" "pos" "I") (by decide +kernel))) (fun _ h9 => h9) dX6_takeRec_27 ?_
    obtain ⟨r_20, st_18, hc_19, hf⟩ := bnd_some hf
    refine q_ci hp hA (va_runV (As := [.int (qI st_15 h0 3)]) (rest := []) ⟨hx, hb, hml, hown, hts⟩ (c_X6_isDigit l dC dI ka ad ct h0 (qI st_15 h0 3) _ _ _ hc_19 _) (cwV 1 hts gq_X6_takeRec_X6_isDigit_93 rfl rfl rfl (by decide +kernel) ⟨Nat.le_of_ble_eq_true rfl, Nat.le_of_ble_eq_true rfl⟩) ⟨PrC.blind _, q_rv8 hK hp hC hk_10, q_pre hp hK hN hZ hC hR hL hA⟩ rfl rfl hl.1 rfl (lv_room (Nat.le_of_ble_eq_true rfl)) dX6_takeRec_30 ⟨Nat.le_of_ble_eq_true rfl, Nat.le_of_ble_eq_true rfl⟩) (fun H locs hp => ?_)
    have hk_10 : qk st_18 h0 = 9 := by rw [(mo_X6_isDigit h0 (qI st_15 h0 3) _ _ _ hc_19).2.2.1]; exact hk_10
    refine lv_if_ne (tgt := 46) hx hb dX6_takeRec_33 (by decide) (fun c_21 => ?_) (fun c_21 => ?_)
    · have hf := pif_f c_21 hf
      refine lv_aload_n hx hb dX6_takeRec_46 rfl (lv_at hl 0 rfl) ?_
      refine lv_aload_n hx hb dX6_takeRec_47 rfl (lv_at hl 0 rfl) ?_
      refine q_gi (ci := 8) (C := RX6) (T := TX6) (N := 6) (k := 3) hx hb hts iRX6 hown hK hp hk_10 (by decide) rfl rfl (by decide) rfl (Or.inl (hts (.fieldLink RX6 26 "RecordBench$TextReader" "pos" "I") (by decide +kernel))) (fun _ h9 => h9) dX6_takeRec_48 ?_
      obtain ⟨r_24, st_22, hc_23, hf⟩ := bnd_some hf
      refine q_ci hp hA (va_runV (As := [.int (qI st_18 h0 3)]) (rest := []) ⟨hx, hb, hml, hown, hts⟩ (c_X6_digitAt l dC dI ka ad ct h0 (qI st_18 h0 3) _ _ _ hc_23 _) (cwV 1 hts gq_X6_takeRec_X6_digitAt_97 rfl rfl rfl (by decide +kernel) ⟨Nat.le_of_ble_eq_true rfl, Nat.le_of_ble_eq_true rfl⟩) ⟨PrC.blind _, q_rv8 hK hp hC hk_10, q_pre hp hK hN hZ hC hR hL hA⟩ rfl rfl hl.1 rfl (lv_room (Nat.le_of_ble_eq_true rfl)) dX6_takeRec_51 ⟨Nat.le_of_ble_eq_true rfl, Nat.le_of_ble_eq_true rfl⟩) (fun H locs hp => ?_)
      have hk_10 : qk st_22 h0 = 9 := by rw [(mo_X6_digitAt h0 (qI st_18 h0 3) _ _ _ hc_23).2.2.1]; exact hk_10
      refine lv_istore_n (i := 3) (lv' := [(3, .int r_24), (0, .ref (ad h0)), (1, va_rf (Option.map ad p0)), (2, .int p1)]) hx hb dX6_takeRec_54 rfl hl (by decide) rfl (fun ls hl => ?_)
      refine lv_iload_n hx hb dX6_takeRec_55 rfl (lv_at hl 0 rfl) ?_
      refine lv_iload_n hx hb dX6_takeRec_56 rfl (lv_at hl 3 rfl) ?_
      refine lv_icmp_ge (tgt := 71) hx hb dX6_takeRec_57 (by decide) (fun c_25 => ?_) (fun c_25 => ?_)
      · have hf := pif_t c_25 hf
        exact J71 st_22 _ _ _ ⟨hf, hp, (lv_sub hl [1] rfl)⟩
      · have hf := pif_f c_25 hf
        refine lv_aload_n hx hb dX6_takeRec_60 rfl (lv_at hl 1 rfl) ?_
        refine q_gp (ci := 8) (C := RX6) (T := TX6) (N := 6) (k := 1) hx hb hts iRX6 hown hK hp hk_10 (by decide) rfl rfl (by decide) rfl (Or.inl (hts (.fieldLink RX6 15 "RecordBench$TextReader" "makes" "[LRecordBench$Make;") (by decide +kernel))) (fun _ h9 => h9) dX6_takeRec_61 ?_
        refine lv_iload_n hx hb dX6_takeRec_64 rfl (lv_at hl 0 rfl) ?_
        obtain ⟨r_28, st_26, hc_27, hf⟩ := bnd_some hf
        refine q_cq hp hA (va_runSN (As := [va_rf (Option.map ad (qP st_22 h0 1)), .int r_24]) (rest := []) ⟨hx, hb, hml, hown, hts⟩ (c_X8_makeOf l dC dI ka ad ct (qP st_22 h0 1) r_24 _ _ _ hc_27 _) ⟨va_cnB 2 hts gq_X6_takeRec_X8_makeOf_138 rfl rfl rfl (hN.1 (.methodLinkNest RX6 138 yX8_makeOf "RecordBench") (by decide +kernel)) (hts (.initialized RX8) (by decide +kernel)) (by decide +kernel) ⟨Nat.le_of_ble_eq_true rfl, Nat.le_of_ble_eq_true rfl⟩, (hts (.static yX8_makeOf) (by decide +kernel)), trivial⟩ ⟨PrC.blind _, q_pre hp hK hN hZ hC hR hL hA⟩ rfl rfl hl.1 rfl (lv_room (Nat.le_of_ble_eq_true rfl)) dX6_takeRec_65 ⟨Nat.le_of_ble_eq_true rfl, Nat.le_of_ble_eq_true rfl⟩) (fun H locs hp => ?_)
        have hk_10 : qk st_26 h0 = 9 := by rw [(mo_X8_makeOf (qP st_22 h0 1) r_24 _ _ _ hc_27).2.2.1]; exact hk_10
        refine o_ifnonnull (tgt := 81) hx hb dX6_takeRec_68 (by decide) (fun c_29 => ?_) (fun c_29 => ?_)
        · have hf := pif_f c_29 hf
          refine o_aload_n hx hb dX6_takeRec_81 rfl (lv_at hl 2 rfl) ?_
          refine lv_iload_n hx hb dX6_takeRec_82 rfl (lv_at hl 0 rfl) ?_
          obtain ⟨a_30, ha_31, hf⟩ := ono_some hf
          refine o_at1 ha_31 ?_
          obtain ⟨hk_32, hf⟩ := gd_some hf
          refine q_pi (ci := 2) (C := RX0) (T := TX0) (N := 7) (k := 3) (v := r_24) (ty := .int) hx hb hts iRX0 tyX0 tyX0_ok nmX0 hown hK hp hk_32 (by decide) rfl rfl (by decide) rfl (Or.inr ⟨_, va_Nw.use rfl (hN.1 (.fieldLinkNest RX6 142 "RecordBench$Field" "rec" "I" "RecordBench") (by decide +kernel))⟩) (fun _ h9 => h9) rfl (by decide +kernel) rfl rfl dX6_takeRec_83 (fun H locs hp => ?_)
          obtain ⟨st_33, est_33, hf⟩ := nam_some hf
          rw [← est_33] at hp
          have hk_10 : qk st_33 h0 = 9 := by rw [est_33]; exact hk_10
          have hk_32 : qk st_33 a_30 = 3 := by rw [est_33]; exact hk_32
          refine lv_aload_n hx hb dX6_takeRec_86 rfl (lv_at hl 1 rfl) ?_
          refine lv_dup hx hb dX6_takeRec_87 rfl ?_
          refine q_gi (ci := 8) (C := RX6) (T := TX6) (N := 6) (k := 3) hx hb hts iRX6 hown hK hp hk_10 (by decide) rfl rfl (by decide) rfl (Or.inl (hts (.fieldLink RX6 26 "RecordBench$TextReader" "pos" "I") (by decide +kernel))) (fun _ h9 => h9) dX6_takeRec_88 ?_
          refine lv_iconst (v := 1) hx hb dX6_takeRec_91 (by decide) ?_
          refine lv_iadd hx hb dX6_takeRec_92 ?_
          refine q_pi (ci := 8) (C := RX6) (T := TX6) (N := 6) (k := 3) (v := (qI st_33 h0 3) + 1) (ty := .int) hx hb hts iRX6 tyX6 tyX6_ok nmX6 hown hK hp hk_10 (by decide) rfl rfl (by decide) rfl (Or.inl (hts (.fieldLink RX6 26 "RecordBench$TextReader" "pos" "I") (by decide +kernel))) (fun _ h9 => h9) rfl (by decide +kernel) rfl rfl dX6_takeRec_93 (fun H locs hp => ?_)
          obtain ⟨st_34, est_34, hf⟩ := nam_some hf
          rw [← est_34] at hp
          have hk_10 : qk st_34 h0 = 9 := by rw [est_34]; exact hk_10
          have hk_32 : qk st_34 a_30 = 3 := by rw [est_34]; exact hk_32
          refine lv_aload_n hx hb dX6_takeRec_96 rfl (lv_at hl 1 rfl) ?_
          refine lv_aload_n hx hb dX6_takeRec_97 rfl (lv_at hl 1 rfl) ?_
          refine q_gi (ci := 8) (C := RX6) (T := TX6) (N := 6) (k := 3) hx hb hts iRX6 hown hK hp hk_10 (by decide) rfl rfl (by decide) rfl (Or.inl (hts (.fieldLink RX6 26 "RecordBench$TextReader" "pos" "I") (by decide +kernel))) (fun _ h9 => h9) dX6_takeRec_98 ?_
          obtain ⟨r_37, st_35, hc_36, hf⟩ := bnd_some hf
          refine q_ci hp hA (va_runV (As := [.int (qI st_34 h0 3)]) (rest := []) ⟨hx, hb, hml, hown, hts⟩ (c_X6_isDigit l dC dI ka ad ct h0 (qI st_34 h0 3) _ _ _ hc_36 _) (cwV 1 hts gq_X6_takeRec_X6_isDigit_93 rfl rfl rfl (by decide +kernel) ⟨Nat.le_of_ble_eq_true rfl, Nat.le_of_ble_eq_true rfl⟩) ⟨PrC.blind _, q_rv8 hK hp hC hk_10, q_pre hp hK hN hZ hC hR hL hA⟩ rfl rfl hl.1 rfl (lv_room (Nat.le_of_ble_eq_true rfl)) dX6_takeRec_101 ⟨Nat.le_of_ble_eq_true rfl, Nat.le_of_ble_eq_true rfl⟩) (fun H locs hp => ?_)
          have hk_10 : qk st_35 h0 = 9 := by rw [(mo_X6_isDigit h0 (qI st_34 h0 3) _ _ _ hc_36).2.2.1]; exact hk_10
          have hk_32 : qk st_35 a_30 = 3 := by rw [(mo_X6_isDigit h0 (qI st_34 h0 3) _ _ _ hc_36).2.2.1]; exact hk_32
          refine lv_if_ne (tgt := 118) hx hb dX6_takeRec_104 (by decide) (fun c_38 => ?_) (fun c_38 => ?_)
          · have hf := pif_f c_38 hf
            exact J118 st_35 _ _ _ ⟨hf, hp, (lv_sub hl [1] rfl)⟩
          · have hf := pif_t c_38 hf
            refine lv_aload_n hx hb dX6_takeRec_107 rfl (lv_at hl 1 rfl) ?_
            refine lv_aload_n hx hb dX6_takeRec_108 rfl (lv_at hl 1 rfl) ?_
            refine q_gi (ci := 8) (C := RX6) (T := TX6) (N := 6) (k := 3) hx hb hts iRX6 hown hK hp hk_10 (by decide) rfl rfl (by decide) rfl (Or.inl (hts (.fieldLink RX6 26 "RecordBench$TextReader" "pos" "I") (by decide +kernel))) (fun _ h9 => h9) dX6_takeRec_109 ?_
            obtain ⟨r_41, st_39, hc_40, hf⟩ := bnd_some hf
            refine q_ci hp hA (va_runV (As := [.int (qI st_35 h0 3)]) (rest := []) ⟨hx, hb, hml, hown, hts⟩ (c_X6_isLetter l dC dI ka ad ct h0 (qI st_35 h0 3) _ _ _ hc_40 _) (cwV 1 hts gq_X6_takeRec_X6_isLetter_108 rfl rfl rfl (by decide +kernel) ⟨Nat.le_of_ble_eq_true rfl, Nat.le_of_ble_eq_true rfl⟩) ⟨PrC.blind _, q_rv8 hK hp hC hk_10, q_pre hp hK hN hZ hC hR hL hA⟩ rfl rfl hl.1 rfl (lv_room (Nat.le_of_ble_eq_true rfl)) dX6_takeRec_112 ⟨Nat.le_of_ble_eq_true rfl, Nat.le_of_ble_eq_true rfl⟩) (fun H locs hp => ?_)
            have hk_10 : qk st_39 h0 = 9 := by rw [(mo_X6_isLetter h0 (qI st_35 h0 3) _ _ _ hc_40).2.2.1]; exact hk_10
            have hk_32 : qk st_39 a_30 = 3 := by rw [(mo_X6_isLetter h0 (qI st_35 h0 3) _ _ _ hc_40).2.2.1]; exact hk_32
            refine lv_if_eq (tgt := 130) hx hb dX6_takeRec_115 (by decide) (fun c_42 => ?_) (fun c_42 => ?_)
            · have hf := pif_t c_42 hf
              refine lv_iconst (v := 1) hx hb dX6_takeRec_130 (by decide) ?_
              refine lv_goto (tgt := 135) hx hb dX6_takeRec_131 (by decide) ?_
              obtain ⟨e1, e2⟩ := pr_some hf
              exact W.zret (v := 1) hx hb hr rfl (fun t ht hW => ⟨⟨1, (), rfl, e1, Cp.end e2 hp ht⟩, hp.2.1.F ht⟩) hp.2.1.2.2 dX6_takeRec_135
            · have hf := pif_f c_42 hf
              exact J118 st_39 _ _ _ ⟨hf, hp, (lv_sub hl [1] rfl)⟩
        · have hf := pif_t c_29 hf
          exact J71 st_26 _ _ _ ⟨hf, hp, (lv_sub hl [1] rfl)⟩
    · have hf := pif_t c_21 hf
      refine lv_aload_n hx hb dX6_takeRec_36 rfl (lv_at hl 0 rfl) ?_
      refine lv_iconst (v := 1) hx hb dX6_takeRec_37 (by decide) ?_
      refine lv_aload_n hx hb dX6_takeRec_38 rfl (lv_at hl 0 rfl) ?_
      refine q_gi (ci := 8) (C := RX6) (T := TX6) (N := 6) (k := 3) hx hb hts iRX6 hown hK hp hk_10 (by decide) rfl rfl (by decide) rfl (Or.inl (hts (.fieldLink RX6 26 "RecordBench$TextReader" "pos" "I") (by decide +kernel))) (fun _ h9 => h9) dX6_takeRec_39 ?_
      obtain ⟨r_45, st_43, hc_44, hf⟩ := bnd_some hf
      refine q_ci hp hA (va_runV (As := [.int 1, .int (qI st_18 h0 3)]) (rest := []) ⟨hx, hb, hml, hown, hts⟩ (c_X6_refuse l dC dI ka ad ct h0 1 (qI st_18 h0 3) _ _ _ hc_44 _) (cwV 2 hts gq_X6_takeRec_X6_refuse_48 rfl rfl rfl (by decide +kernel) ⟨Nat.le_of_ble_eq_true rfl, Nat.le_of_ble_eq_true rfl⟩) ⟨PrC.blind _, q_rv8 hK hp hC hk_10, q_pre hp hK hN hZ hC hR hL hA⟩ rfl rfl hl.1 rfl (lv_room (Nat.le_of_ble_eq_true rfl)) dX6_takeRec_42 ⟨Nat.le_of_ble_eq_true rfl, Nat.le_of_ble_eq_true rfl⟩) (fun H locs hp => ?_)
      have hk_10 : qk st_43 h0 = 9 := by rw [(mo_X6_refuse h0 1 (qI st_18 h0 3) _ _ _ hc_44).2.2.1]; exact hk_10
      obtain ⟨hz, hf⟩ := gd_some hf
      obtain ⟨e1, e2⟩ := pr_some hf
      exact W.zret (v := r_45) hx hb hr hz (fun t ht hW => ⟨⟨r_45, (), rfl, e1, Cp.end e2 hp ht⟩, hp.2.1.F ht⟩) hp.2.1.2.2 dX6_takeRec_45
  · have hf := pif_f c_14 hf
    refine lv_aload_n hx hb dX6_takeRec_11 rfl (lv_at hl 0 rfl) ?_
    refine lv_iconst (v := 1) hx hb dX6_takeRec_12 (by decide) ?_
    refine lv_aload_n hx hb dX6_takeRec_13 rfl (lv_at hl 0 rfl) ?_
    refine q_gi (ci := 8) (C := RX6) (T := TX6) (N := 6) (k := 3) hx hb hts iRX6 hown hK hp hk_10 (by decide) rfl rfl (by decide) rfl (Or.inl (hts (.fieldLink RX6 26 "RecordBench$TextReader" "pos" "I") (by decide +kernel))) (fun _ h9 => h9) dX6_takeRec_14 ?_
    obtain ⟨r_48, st_46, hc_47, hf⟩ := bnd_some hf
    refine q_ci hp hA (va_runV (As := [.int 1, .int (qI st_11 h0 3)]) (rest := []) ⟨hx, hb, hml, hown, hts⟩ (c_X6_refuse l dC dI ka ad ct h0 1 (qI st_11 h0 3) _ _ _ hc_47 _) (cwV 2 hts gq_X6_takeRec_X6_refuse_48 rfl rfl rfl (by decide +kernel) ⟨Nat.le_of_ble_eq_true rfl, Nat.le_of_ble_eq_true rfl⟩) ⟨PrC.blind _, q_rv8 hK hp hC hk_10, q_pre hp hK hN hZ hC hR hL hA⟩ rfl rfl hl.1 rfl (lv_room (Nat.le_of_ble_eq_true rfl)) dX6_takeRec_17 ⟨Nat.le_of_ble_eq_true rfl, Nat.le_of_ble_eq_true rfl⟩) (fun H locs hp => ?_)
    have hk_10 : qk st_46 h0 = 9 := by rw [(mo_X6_refuse h0 1 (qI st_11 h0 3) _ _ _ hc_47).2.2.1]; exact hk_10
    obtain ⟨hz, hf⟩ := gd_some hf
    obtain ⟨e1, e2⟩ := pr_some hf
    exact W.zret (v := r_48) hx hb hr hz (fun t ht hW => ⟨⟨r_48, (), rfl, e1, Cp.end e2 hp ht⟩, hp.2.1.F ht⟩) hp.2.1.2.2 dX6_takeRec_20
noncomputable def fX6_takeValue_190 (h0 : Nat)  (l2 : Int32) (gs : CS) : Option (Int32 × CS) := gd (qk gs h0 = 9) (bnd (fX6_refuse h0 2 l2 gs) (fun r_4 st_2 => gd (narrow .boolean (.int r_4) = .int r_4) (some (r_4, st_2))))
set_option maxHeartbeats 1000000 in
theorem mo_X6_takeValue_190 (h0 : Nat)   (l2 : Int32) (gs : CS) (r : Int32) (st' : CS) (hf : fX6_takeValue_190 h0 l2 gs = some (r, st')) : Ke gs st' := by
  unfold fX6_takeValue_190 at hf
  have hm : Ke gs gs := Ke.rf
  obtain ⟨hk_1, hf⟩ := gd_some hf
  obtain ⟨r_4, st_2, hc_3, hf⟩ := bnd_some hf
  have hm := hm.tr (mo_X6_refuse h0 2 l2 _ _ _ hc_3)
  obtain ⟨hz, hf⟩ := gd_some hf
  obtain ⟨e1, e2⟩ := pr_some hf
  exact e2 ▸ hm
noncomputable def fX6_takeValue_174 (h0 : Nat)  (l1 : Option Nat) (l2 : Int32) (l7 : Int32) (s0 : Int64) (gs : CS) : Option (Int32 × CS) := pif (l7 = 0) (fX6_takeValue_190 h0 l2 gs) (ono l1 (fun a_6 => gd (qk gs a_6 = 3) (bnd (fX0_holds a_6 s0 gs) (fun r_11 st_9 => pif (r_11 = 0) (fX6_takeValue_190 h0 l2 st_9) (nam (wJ st_9 a_6 6 s0) (fun st_13 => some ((1 : Int32), st_13)))))))
set_option maxHeartbeats 1000000 in
theorem mo_X6_takeValue_174 (h0 : Nat)   (l1 : Option Nat) (l2 : Int32) (l7 : Int32) (s0 : Int64) (gs : CS) (r : Int32) (st' : CS) (hf : fX6_takeValue_174 h0 l1 l2 l7 s0 gs = some (r, st')) : Ke gs st' := by
  unfold fX6_takeValue_174 at hf
  have hm : Ke gs gs := Ke.rf
  rcases pif_or hf with ⟨c_5, hf⟩ | ⟨c_5, hf⟩
  · exact hm.tr (mo_X6_takeValue_190 h0 l2 gs _ _ hf)
  · obtain ⟨a_6, ha_7, hf⟩ := ono_some hf
    obtain ⟨hk_8, hf⟩ := gd_some hf
    obtain ⟨r_11, st_9, hc_10, hf⟩ := bnd_some hf
    have hm := hm.tr (mo_X0_holds a_6 s0 _ _ _ hc_10)
    rcases pif_or hf with ⟨c_12, hf⟩ | ⟨c_12, hf⟩
    · exact hm.tr (mo_X6_takeValue_190 h0 l2 st_9 _ _ hf)
    · obtain ⟨st_13, est_13, hf⟩ := nam_some hf
      have hm := hm.wJ est_13
      obtain ⟨e1, e2⟩ := pr_some hf
      exact e2 ▸ hm
noncomputable def fX6_takeValue_160 (h0 : Nat)  (l1 : Option Nat) (l2 : Int32) (l3 : Int32) (l5 : Int64) (s0 : Int32) (gs : CS) : Option (Int32 × CS) := pif (l3 = 0) (fX6_takeValue_174 h0 l1 l2 s0 l5 gs) (fX6_takeValue_174 h0 l1 l2 s0 (-l5) gs)
set_option maxHeartbeats 1000000 in
theorem mo_X6_takeValue_160 (h0 : Nat)   (l1 : Option Nat) (l2 : Int32) (l3 : Int32) (l5 : Int64) (s0 : Int32) (gs : CS) (r : Int32) (st' : CS) (hf : fX6_takeValue_160 h0 l1 l2 l3 l5 s0 gs = some (r, st')) : Ke gs st' := by
  unfold fX6_takeValue_160 at hf
  have hm : Ke gs gs := Ke.rf
  rcases pif_or hf with ⟨c_14, hf⟩ | ⟨c_14, hf⟩
  · exact hm.tr (mo_X6_takeValue_174 h0 l1 l2 s0 l5 gs _ _ hf)
  · exact hm.tr (mo_X6_takeValue_174 h0 l1 l2 s0 (-l5) gs _ _ hf)
noncomputable def fX6_takeValue_159 (h0 : Nat)  (l1 : Option Nat) (l2 : Int32) (l3 : Int32) (l5 : Int64) (gs : CS) : Option (Int32 × CS) := fX6_takeValue_160 h0 l1 l2 l3 l5 0 gs
set_option maxHeartbeats 1000000 in
theorem mo_X6_takeValue_159 (h0 : Nat)   (l1 : Option Nat) (l2 : Int32) (l3 : Int32) (l5 : Int64) (gs : CS) (r : Int32) (st' : CS) (hf : fX6_takeValue_159 h0 l1 l2 l3 l5 gs = some (r, st')) : Ke gs st' := by
  unfold fX6_takeValue_159 at hf
  have hm : Ke gs gs := Ke.rf
  exact hm.tr (mo_X6_takeValue_160 h0 l1 l2 l3 l5 0 gs _ _ hf)
noncomputable def fX6_takeValue_155 (h0 : Nat)  (l1 : Option Nat) (l2 : Int32) (l3 : Int32) (l5 : Int64) (gs : CS) : Option (Int32 × CS) := fX6_takeValue_160 h0 l1 l2 l3 l5 1 gs
set_option maxHeartbeats 1000000 in
theorem mo_X6_takeValue_155 (h0 : Nat)   (l1 : Option Nat) (l2 : Int32) (l3 : Int32) (l5 : Int64) (gs : CS) (r : Int32) (st' : CS) (hf : fX6_takeValue_155 h0 l1 l2 l3 l5 gs = some (r, st')) : Ke gs st' := by
  unfold fX6_takeValue_155 at hf
  have hm : Ke gs gs := Ke.rf
  exact hm.tr (mo_X6_takeValue_160 h0 l1 l2 l3 l5 1 gs _ _ hf)
noncomputable def fX6_takeValue_125 (h0 : Nat)  (gs : CS) : Option (Int32 × CS) := gd (qk gs h0 = 9) (bnd (fX6_refuse h0 1 (qI gs h0 3) gs) (fun r_18 st_16 => gd (narrow .boolean (.int r_18) = .int r_18) (some (r_18, st_16))))
set_option maxHeartbeats 1000000 in
theorem mo_X6_takeValue_125 (h0 : Nat)   (gs : CS) (r : Int32) (st' : CS) (hf : fX6_takeValue_125 h0 gs = some (r, st')) : Ke gs st' := by
  unfold fX6_takeValue_125 at hf
  have hm : Ke gs gs := Ke.rf
  obtain ⟨hk_15, hf⟩ := gd_some hf
  obtain ⟨r_18, st_16, hc_17, hf⟩ := bnd_some hf
  have hm := hm.tr (mo_X6_refuse h0 1 (qI gs h0 3) _ _ _ hc_17)
  obtain ⟨hz, hf⟩ := gd_some hf
  obtain ⟨e1, e2⟩ := pr_some hf
  exact e2 ▸ hm
noncomputable def fX6_takeValue_105 (h0 : Nat)  (l1 : Option Nat) (l2 : Int32) (l3 : Int32) (l4 : Int32) (l5 : Int64) (gs : CS) : Option (Int32 × CS) := gd (qk gs h0 = 9) (pif ((qI gs h0 3) = l4) (fX6_takeValue_125 h0 gs) (bnd (fX6_isDigit h0 (qI gs h0 3) gs) (fun r_23 st_21 => pif (r_23 = 0) (pif (0 ≤ (lg_cmp l5 (0 : Int64))) (fX6_takeValue_155 h0 l1 l2 l3 l5 st_21) (pif (l3 = 0) (fX6_takeValue_159 h0 l1 l2 l3 l5 st_21) (pif ((lg_cmp l5 ((-9223372036854775808) : Int64)) = 0) (fX6_takeValue_155 h0 l1 l2 l3 l5 st_21) (fX6_takeValue_159 h0 l1 l2 l3 l5 st_21)))) (fX6_takeValue_125 h0 st_21))))
set_option maxHeartbeats 1000000 in
theorem mo_X6_takeValue_105 (h0 : Nat)   (l1 : Option Nat) (l2 : Int32) (l3 : Int32) (l4 : Int32) (l5 : Int64) (gs : CS) (r : Int32) (st' : CS) (hf : fX6_takeValue_105 h0 l1 l2 l3 l4 l5 gs = some (r, st')) : Ke gs st' := by
  unfold fX6_takeValue_105 at hf
  have hm : Ke gs gs := Ke.rf
  obtain ⟨hk_19, hf⟩ := gd_some hf
  rcases pif_or hf with ⟨c_20, hf⟩ | ⟨c_20, hf⟩
  · exact hm.tr (mo_X6_takeValue_125 h0 gs _ _ hf)
  · obtain ⟨r_23, st_21, hc_22, hf⟩ := bnd_some hf
    have hm := hm.tr (mo_X6_isDigit h0 (qI gs h0 3) _ _ _ hc_22)
    rcases pif_or hf with ⟨c_24, hf⟩ | ⟨c_24, hf⟩
    · rcases pif_or hf with ⟨c_25, hf⟩ | ⟨c_25, hf⟩
      · exact hm.tr (mo_X6_takeValue_155 h0 l1 l2 l3 l5 st_21 _ _ hf)
      · rcases pif_or hf with ⟨c_26, hf⟩ | ⟨c_26, hf⟩
        · exact hm.tr (mo_X6_takeValue_159 h0 l1 l2 l3 l5 st_21 _ _ hf)
        · rcases pif_or hf with ⟨c_27, hf⟩ | ⟨c_27, hf⟩
          · exact hm.tr (mo_X6_takeValue_155 h0 l1 l2 l3 l5 st_21 _ _ hf)
          · exact hm.tr (mo_X6_takeValue_159 h0 l1 l2 l3 l5 st_21 _ _ hf)
    · exact hm.tr (mo_X6_takeValue_125 h0 st_21 _ _ hf)
noncomputable def fX6_takeValue_53 (h0 : Nat)  : Nat → Option Nat → Int32 → Int32 → Int32 → Int64 → Int32 → CS → Option (Int32 × CS)
  | 0 => fun _ _ _ _ _ _ _ => none
  | n + 1 => fun l1 l2 l3 l4 l5 l7 gs => pif (19 ≤ l7) (fX6_takeValue_105 h0 l1 l2 l3 l4 l5 gs) (gd (qk gs h0 = 9) (bnd (fX6_isDigit h0 (qI gs h0 3) gs) (fun r_32 st_30 => pif (r_32 = 0) (fX6_takeValue_105 h0 l1 l2 l3 l4 l5 st_30) (bnd (fX6_digitAt h0 (qI st_30 h0 3) st_30) (fun r_36 st_34 => nam ((l5 * 10) + r_36.toInt64) (fun v_37 => nam (wI st_34 h0 3 ((qI st_34 h0 3) + 1)) (fun st_38 => nam (l7 + 1) (fun v_39 => (fX6_takeValue_53 h0 n) l1 l2 l3 l4 v_37 v_39 st_38))))))))
theorem fX6_takeValue_53_z (h0 : Nat)  (l1 : Option Nat) (l2 : Int32) (l3 : Int32) (l4 : Int32) (l5 : Int64) (l7 : Int32) (gs : CS) : fX6_takeValue_53 h0 0 l1 l2 l3 l4 l5 l7 gs = none := rfl
theorem fX6_takeValue_53_s (h0 : Nat)  (n : Nat) (l1 : Option Nat) (l2 : Int32) (l3 : Int32) (l4 : Int32) (l5 : Int64) (l7 : Int32) (gs : CS) : fX6_takeValue_53 h0 (n + 1) l1 l2 l3 l4 l5 l7 gs = pif (19 ≤ l7) (fX6_takeValue_105 h0 l1 l2 l3 l4 l5 gs) (gd (qk gs h0 = 9) (bnd (fX6_isDigit h0 (qI gs h0 3) gs) (fun r_32 st_30 => pif (r_32 = 0) (fX6_takeValue_105 h0 l1 l2 l3 l4 l5 st_30) (bnd (fX6_digitAt h0 (qI st_30 h0 3) st_30) (fun r_36 st_34 => nam ((l5 * 10) + r_36.toInt64) (fun v_37 => nam (wI st_34 h0 3 ((qI st_34 h0 3) + 1)) (fun st_38 => nam (l7 + 1) (fun v_39 => (fX6_takeValue_53 h0 n) l1 l2 l3 l4 v_37 v_39 st_38)))))))) := rfl
set_option maxHeartbeats 1000000 in
theorem mo_X6_takeValue_53 (h0 : Nat)   : ∀ (n : Nat) (l1 : Option Nat) (l2 : Int32) (l3 : Int32) (l4 : Int32) (l5 : Int64) (l7 : Int32) (gs : CS) (r : Int32) (st' : CS), fX6_takeValue_53 h0 n l1 l2 l3 l4 l5 l7 gs = some (r, st') → Ke gs st' := by
  intro n
  induction n with
  | zero =>
    intro l1 l2 l3 l4 l5 l7 gs r st' hf
    rw [fX6_takeValue_53_z] at hf
    cases hf
  | succ n ih =>
    intro l1 l2 l3 l4 l5 l7 gs r st' hf
    rw [fX6_takeValue_53_s] at hf
    have hm : Ke gs gs := Ke.rf
    rcases pif_or hf with ⟨c_28, hf⟩ | ⟨c_28, hf⟩
    · exact hm.tr (mo_X6_takeValue_105 h0 l1 l2 l3 l4 l5 gs _ _ hf)
    · obtain ⟨hk_29, hf⟩ := gd_some hf
      obtain ⟨r_32, st_30, hc_31, hf⟩ := bnd_some hf
      have hm := hm.tr (mo_X6_isDigit h0 (qI gs h0 3) _ _ _ hc_31)
      rcases pif_or hf with ⟨c_33, hf⟩ | ⟨c_33, hf⟩
      · exact hm.tr (mo_X6_takeValue_105 h0 l1 l2 l3 l4 l5 st_30 _ _ hf)
      · obtain ⟨r_36, st_34, hc_35, hf⟩ := bnd_some hf
        have hm := hm.tr (mo_X6_digitAt h0 (qI st_30 h0 3) _ _ _ hc_35)
        obtain ⟨v_37, ev_37, hf⟩ := nam_some hf
        obtain ⟨st_38, est_38, hf⟩ := nam_some hf
        have hm := hm.wI est_38
        obtain ⟨v_39, ev_39, hf⟩ := nam_some hf
        exact hm.tr (ih l1 l2 l3 l4 v_37 v_39 st_38 _ _ hf)
noncomputable def fX6_takeValue_41 (h0 : Nat)  (l1 : Option Nat) (l2 : Int32) (l3 : Int32) (gs : CS) : Option (Int32 × CS) := gd (qk gs h0 = 9) (nam (qI gs h0 3) (fun v_41 => fX6_takeValue_53 h0 fuel l1 l2 l3 v_41 0 0 gs))
set_option maxHeartbeats 1000000 in
theorem mo_X6_takeValue_41 (h0 : Nat)   (l1 : Option Nat) (l2 : Int32) (l3 : Int32) (gs : CS) (r : Int32) (st' : CS) (hf : fX6_takeValue_41 h0 l1 l2 l3 gs = some (r, st')) : Ke gs st' := by
  unfold fX6_takeValue_41 at hf
  have hm : Ke gs gs := Ke.rf
  obtain ⟨hk_40, hf⟩ := gd_some hf
  obtain ⟨v_41, ev_41, hf⟩ := nam_some hf
  exact hm.tr (mo_X6_takeValue_53 h0 fuel l1 l2 l3 v_41 0 0 gs _ _ hf)
noncomputable def fX6_takeValue_26 (h0 : Nat)  (l1 : Option Nat) (l2 : Int32) (s0 : Int32) (gs : CS) : Option (Int32 × CS) := pif (s0 = 0) (fX6_takeValue_41 h0 l1 l2 s0 gs) (gd (qk gs h0 = 9) (nam (wI gs h0 3 ((qI gs h0 3) + 1)) (fun st_44 => fX6_takeValue_41 h0 l1 l2 s0 st_44)))
set_option maxHeartbeats 1000000 in
theorem mo_X6_takeValue_26 (h0 : Nat)   (l1 : Option Nat) (l2 : Int32) (s0 : Int32) (gs : CS) (r : Int32) (st' : CS) (hf : fX6_takeValue_26 h0 l1 l2 s0 gs = some (r, st')) : Ke gs st' := by
  unfold fX6_takeValue_26 at hf
  have hm : Ke gs gs := Ke.rf
  rcases pif_or hf with ⟨c_42, hf⟩ | ⟨c_42, hf⟩
  · exact hm.tr (mo_X6_takeValue_41 h0 l1 l2 s0 gs _ _ hf)
  · obtain ⟨hk_43, hf⟩ := gd_some hf
    obtain ⟨st_44, est_44, hf⟩ := nam_some hf
    have hm := hm.wI est_44
    exact hm.tr (mo_X6_takeValue_41 h0 l1 l2 s0 st_44 _ _ hf)
noncomputable def fX6_takeValue (h0 : Nat) (p0 : Option Nat) (st : CS) : Option (Int32 × CS) := gd (qk st h0 = 9) (nam (qI st h0 3) (fun v_46 => ono (qP st h0 0) (fun a_47 => gd (qk st a_47 = 8) (bnd (fX5_byteAt a_47 (qI st h0 3) st) (fun r_52 st_50 => pif (r_52 = 45) (fX6_takeValue_26 h0 p0 v_46 1 st_50) (fX6_takeValue_26 h0 p0 v_46 0 st_50))))))
set_option maxHeartbeats 1000000 in
theorem mo_X6_takeValue (h0 : Nat) (p0 : Option Nat) (st : CS) (r : Int32) (st' : CS) (hf : fX6_takeValue h0 p0 st = some (r, st')) : Ke st st' := by
  unfold fX6_takeValue at hf
  have hm : Ke st st := Ke.rf
  obtain ⟨hk_45, hf⟩ := gd_some hf
  obtain ⟨v_46, ev_46, hf⟩ := nam_some hf
  obtain ⟨a_47, ha_48, hf⟩ := ono_some hf
  obtain ⟨hk_49, hf⟩ := gd_some hf
  obtain ⟨r_52, st_50, hc_51, hf⟩ := bnd_some hf
  have hm := hm.tr (mo_X5_byteAt a_47 (qI st h0 3) _ _ _ hc_51)
  rcases pif_or hf with ⟨c_53, hf⟩ | ⟨c_53, hf⟩
  · exact hm.tr (mo_X6_takeValue_26 h0 p0 v_46 1 st_50 _ _ hf)
  · exact hm.tr (mo_X6_takeValue_26 h0 p0 v_46 0 st_50 _ _ hf)
def wq_X6_takeValue : List Cond := .code yX6_takeValue cX6_takeValue 10 (some .boolean) :: (([.fieldLink RX6 26 "RecordBench$TextReader" "pos" "I", .fieldLink RX6 9 "RecordBench$TextReader" "tape" "LRecordBench$Row;", .constantLong RX6 159 (10), .constantLong RX6 161 (-9223372036854775808), .methodLink RX6 48 yX6_refuse, .instanceMethod yX6_refuse, .selects RX6 yX6_refuse yX6_refuse, .initialized RX6, .methodLink RX6 163 yX0_holds, .instanceMethod yX0_holds, .selects RX0 yX0_holds yX0_holds, .initialized RX0, .methodLink RX6 93 yX6_isDigit, .instanceMethod yX6_isDigit, .selects RX6 yX6_isDigit yX6_isDigit, .methodLink RX6 97 yX6_digitAt, .instanceMethod yX6_digitAt, .selects RX6 yX6_digitAt yX6_digitAt, .methodLink RX6 150 yX5_byteAt, .instanceMethod yX5_byteAt, .selects RX5 yX5_byteAt yX5_byteAt, .initialized RX5, .code yX6_refuse cX6_refuse 3 (some .boolean), .fieldLink RX6 30 "RecordBench$TextReader" "fault" "I", .fieldLink RX6 33 "RecordBench$TextReader" "place" "I", .code yX0_holds cX0_holds 3 (some .boolean), .fieldLink RX0 15 "RecordBench$Field" "kind" "I", .constantLong RX0 37 (-128), .constantLong RX0 39 (127), .constantLong RX0 41 (-2147483648), .constantLong RX0 43 (2147483647), .code yX6_isDigit cX6_isDigit 3 (some .boolean), .code yX5_byteAt cX5_byteAt 2 (some .int), .fieldLink RX5 21 "RecordBench$Row" "size" "I", .fieldLink RX5 15 "RecordBench$Row" "bytes" "[I", .code yX6_digitAt cX6_digitAt 3 (some .int)] : List Cond) ++ wsX60 ++ wsX00 ++ wsX50)
theorem gs_wq_X6_takeValue_wsX60 : GoodIn wq_X6_takeValue wsX60 := fun w h => ⟨List.mem_cons_of_mem _ (List.mem_append_left _ (List.mem_append_left _ (List.mem_append_right _ h))), (gt_wsX60 w h).2⟩
set_option maxRecDepth 20000 in
theorem gq_X6_takeValue_X6_refuse_48 : GoodIn wq_X6_takeValue (wsV RX6 48 RX6 yX6_refuse wq_X6_refuse) := goodIn_app (goodIn_r _ [5, 6, 7, 8] rfl rfl) (goodIn_ca (goodIn_r _ [23, 24, 25] rfl rfl) gs_wq_X6_takeValue_wsX60)
theorem gs_wq_X6_takeValue_wsX00 : GoodIn wq_X6_takeValue wsX00 := fun w h => ⟨List.mem_cons_of_mem _ (List.mem_append_left _ (List.mem_append_right _ h)), (gt_wsX00 w h).2⟩
set_option maxRecDepth 20000 in
theorem gq_X6_takeValue_X0_holds_163 : GoodIn wq_X6_takeValue (wsV RX6 163 RX0 yX0_holds wq_X0_holds) := goodIn_app (goodIn_r _ [9, 10, 11, 12] rfl rfl) (goodIn_ca (goodIn_r _ [26, 27, 28, 29, 30, 31] rfl rfl) gs_wq_X6_takeValue_wsX00)
theorem gs_wq_X6_takeValue_wsX50 : GoodIn wq_X6_takeValue wsX50 := fun w h => ⟨List.mem_cons_of_mem _ (List.mem_append_right _ h), (gt_wsX50 w h).2⟩
set_option maxRecDepth 20000 in
theorem gq_X6_takeValue_X6_isDigit_93 : GoodIn wq_X6_takeValue (wsV RX6 93 RX6 yX6_isDigit wq_X6_isDigit) := goodIn_app (goodIn_r _ [13, 14, 15, 8] rfl rfl) (goodIn_ca (goodIn_ca (goodIn_r _ [32, 2, 19, 20, 21, 22, 33, 34, 35] rfl rfl) gs_wq_X6_takeValue_wsX60) gs_wq_X6_takeValue_wsX50)
set_option maxRecDepth 20000 in
theorem gq_X6_takeValue_X6_digitAt_97 : GoodIn wq_X6_takeValue (wsV RX6 97 RX6 yX6_digitAt wq_X6_digitAt) := goodIn_app (goodIn_r _ [16, 17, 18, 8] rfl rfl) (goodIn_ca (goodIn_ca (goodIn_r _ [36, 2, 19, 20, 21, 22, 33, 34, 35] rfl rfl) gs_wq_X6_takeValue_wsX60) gs_wq_X6_takeValue_wsX50)
set_option maxRecDepth 20000 in
theorem gq_X6_takeValue_X5_byteAt_150 : GoodIn wq_X6_takeValue (wsV RX6 150 RX5 yX5_byteAt wq_X5_byteAt) := goodIn_app (goodIn_r _ [19, 20, 21, 22] rfl rfl) (goodIn_ca (goodIn_r _ [33, 34, 35] rfl rfl) gs_wq_X6_takeValue_wsX50)
set_option maxHeartbeats 4000000 in
set_option maxRecDepth 100000 in
theorem c_X6_takeValue (l : Launch) (dC : Nat → ClassId) (dI : Nat → Nat → Nat) (ka ad : Nat → Nat) (ct : Nat → ClassId) (h0 : Nat) (p0 : Option Nat) (st st' : CS) (r : Int32) (hf : fX6_takeValue h0 p0 st = some (r, st')) (sz : Nat) : Met l yX6_takeValue wq_X6_takeValue ({ frames := 2, cells := 0, slots := 0, locals := 51 }) (va_Pc [.ref (ad h0), va_rf (Option.map ad p0)] (PrC (dC, dI) ct ka ad st sz)) (va_Qi (fun r' (_ : Unit) => r' = r) (fun _ => CB (dC, dI) ct ka ad st' (aC ad st sz)) (aC ad st sz)) 0 0 (aC ad st sz) := by
  refine Met.ofW (cc := cX6_takeValue) (maxL := 10) (ret := (some .boolean)) (by decide) rfl ?_
  intro p e s m args below meth c s₁ B hml hv
  obtain ⟨rfl, hsz, hw0, hK, hN, hZ, hC, hR, hL, hw1, hw2⟩ := hv
  have hx := B.exec
  have hb := B.bytes
  have hr := B.returns
  have hts := atoms_spec (ws := wq_X6_takeValue) B.pre
  have hown : s.vm.findClass RX6 = some m.cls := findClass_of_methodNamed B.named
  have iRX6 : ∀ w ∈ u_ws RX6 TX6 6, w ∈ wq_X6_takeValue := fun w h => List.mem_cons_of_mem _ (List.mem_append_left _ (List.mem_append_left _ (List.mem_append_right _ h)))
  have iRX0 : ∀ w ∈ u_ws RX0 TX0 7, w ∈ wq_X6_takeValue := fun w h => List.mem_cons_of_mem _ (List.mem_append_left _ (List.mem_append_right _ h))
  subst hsz
  have hp : Cp (dC, dI) ka ad ct (aC ad st s.heap.size) s.heap st s.heap [] := ⟨fun i a b => ⟨hw0 i a b, Or.inl ⟨i, a, b, rfl⟩⟩, va_S.rf, hw1, hw2⟩
  generalize hAe : aC ad st s.heap.size = A at hp hZ hC ⊢
  have hA : ∀ q : Nat, s.heap.size ≤ q → A q := fun q h => by rw [← hAe]; exact Or.inr h
  have hl := lv_entry ([.ref (ad h0), va_rf (Option.map ad p0)]) (n := 10) (by simp [lg_sl, rf_cat, vc_i, vc_l, vc_r, vc_n])
  rw [lg_entry_eq]
  generalize (lg_sl ([.ref (ad h0), va_rf (Option.map ad p0)]) ++ List.replicate (10 - (lg_sl ([.ref (ad h0), va_rf (Option.map ad p0)])).length) Slot.unset).toArray = ls at hl ⊢
  have hl : lv_has ls 10 [(0, .ref (ad h0)), (1, va_rf (Option.map ad p0))] := by simpa [lv_args, rf_cat, vc_i, vc_l, vc_r, vc_n] using hl
  refine W_blk (fun (u : Int32 × CS) H locs ls => match u with | (l2, gs) => fX6_takeValue_190 h0 l2 gs = some (r, st') ∧ Cp (dC, dI) ka ad ct A s.heap gs H locs ∧ lv_has ls 10 [(0, .ref (ad h0)), (2, .int l2)]) (fun (u : Int32 × CS) ls => match u with | (l2, gs) => F0 m 190 ls []) ?_ (fun J190 => ?_)
  · intro u H locs ls hu
    obtain ⟨l2, gs⟩ := u
    obtain ⟨hf, hp, hl⟩ := hu
    show W p l e _ s m _ below meth c _ _ _ _ _ (F0 m 190 ls [])
    unfold fX6_takeValue_190 at hf
    refine lv_aload_n hx hb dX6_takeValue_190 rfl (lv_at hl 0 rfl) ?_
    refine lv_iconst (v := 2) hx hb dX6_takeValue_191 (by decide) ?_
    refine lv_iload_n hx hb dX6_takeValue_192 rfl (lv_at hl 1 rfl) ?_
    obtain ⟨hk_1, hf⟩ := gd_some hf
    obtain ⟨r_4, st_2, hc_3, hf⟩ := bnd_some hf
    refine q_ci hp hA (va_runV (As := [.int 2, .int l2]) (rest := []) ⟨hx, hb, hml, hown, hts⟩ (c_X6_refuse l dC dI ka ad ct h0 2 l2 _ _ _ hc_3 _) (cwV 2 hts gq_X6_takeValue_X6_refuse_48 rfl rfl rfl (by decide +kernel) ⟨Nat.le_of_ble_eq_true rfl, Nat.le_of_ble_eq_true rfl⟩) ⟨PrC.blind _, q_rv8 hK hp hC hk_1, q_pre hp hK hN hZ hC hR hL hA⟩ rfl rfl hl.1 rfl (lv_room (Nat.le_of_ble_eq_true rfl)) dX6_takeValue_193 ⟨Nat.le_of_ble_eq_true rfl, Nat.le_of_ble_eq_true rfl⟩) (fun H locs hp => ?_)
    have hk_1 : qk st_2 h0 = 9 := by rw [(mo_X6_refuse h0 2 l2 _ _ _ hc_3).2.2.1]; exact hk_1
    obtain ⟨hz, hf⟩ := gd_some hf
    obtain ⟨e1, e2⟩ := pr_some hf
    exact W.zret (v := r_4) hx hb hr hz (fun t ht hW => ⟨⟨r_4, (), rfl, e1, Cp.end e2 hp ht⟩, hp.2.1.F ht⟩) hp.2.1.2.2 dX6_takeValue_196
  refine W_blk (fun (u : (Option Nat) × Int32 × Int32 × Int64 × CS) H locs ls => match u with | (l1, l2, l7, s0, gs) => fX6_takeValue_174 h0 l1 l2 l7 s0 gs = some (r, st') ∧ Cp (dC, dI) ka ad ct A s.heap gs H locs ∧ lv_has ls 10 [(0, .ref (ad h0)), (1, va_rf (Option.map ad l1)), (2, .int l2), (7, .int l7)]) (fun (u : (Option Nat) × Int32 × Int32 × Int64 × CS) ls => match u with | (l1, l2, l7, s0, gs) => F0 m 174 ls [.long s0]) ?_ (fun J174 => ?_)
  · intro u H locs ls hu
    obtain ⟨l1, l2, l7, s0, gs⟩ := u
    obtain ⟨hf, hp, hl⟩ := hu
    show W p l e _ s m _ below meth c _ _ _ _ _ (F0 m 174 ls [.long s0])
    unfold fX6_takeValue_174 at hf
    refine lv_lstore (i := 8) (lv' := [(8, .long s0), (0, .ref (ad h0)), (1, va_rf (Option.map ad l1)), (2, .int l2), (7, .int l7)]) hx hb dX6_takeValue_174 hl (by decide) rfl (fun ls hl => ?_)
    refine lv_iload hx hb dX6_takeValue_176 (lv_at hl 4 rfl) ?_
    refine lv_if_eq (tgt := 190) hx hb dX6_takeValue_178 (by decide) (fun c_5 => ?_) (fun c_5 => ?_)
    · have hf := pif_t c_5 hf
      exact J190 (l2, gs) _ _ _ ⟨hf, hp, (lv_sub hl [1, 3] rfl)⟩
    · have hf := pif_f c_5 hf
      refine o_aload_n hx hb dX6_takeValue_181 rfl (lv_at hl 2 rfl) ?_
      refine lv_lload hx hb dX6_takeValue_182 (lv_at hl 0 rfl) ?_
      obtain ⟨a_6, ha_7, hf⟩ := ono_some hf
      refine o_at1 ha_7 ?_
      obtain ⟨hk_8, hf⟩ := gd_some hf
      obtain ⟨r_11, st_9, hc_10, hf⟩ := bnd_some hf
      refine q_ci hp hA (va_runV (As := [.long s0]) (rest := []) ⟨hx, hb, hml, hown, hts⟩ (c_X0_holds l dC dI ka ad ct a_6 s0 _ _ _ hc_10 _) (cwV 1 hts gq_X6_takeValue_X0_holds_163 rfl rfl rfl (by decide +kernel) ⟨Nat.le_of_ble_eq_true rfl, Nat.le_of_ble_eq_true rfl⟩) ⟨PrC.blind _, q_rv2 hK hp hC hk_8, q_pre hp hK hN hZ hC hR hL hA⟩ rfl rfl hl.1 rfl (lv_room (Nat.le_of_ble_eq_true rfl)) dX6_takeValue_184 ⟨Nat.le_of_ble_eq_true rfl, Nat.le_of_ble_eq_true rfl⟩) (fun H locs hp => ?_)
      have hk_8 : qk st_9 a_6 = 3 := by rw [(mo_X0_holds a_6 s0 _ _ _ hc_10).2.2.1]; exact hk_8
      refine lv_if_ne (tgt := 197) hx hb dX6_takeValue_187 (by decide) (fun c_12 => ?_) (fun c_12 => ?_)
      · have hf := pif_f c_12 hf
        refine o_aload_n hx hb dX6_takeValue_197 rfl (lv_at hl 2 rfl) ?_
        refine lv_lload hx hb dX6_takeValue_198 (lv_at hl 0 rfl) ?_
        refine o_at1 ha_7 ?_
        refine q_pj (ci := 2) (C := RX0) (T := TX0) (N := 7) (k := 6) (v := s0) (ty := .long) hx hb hts iRX0 tyX0 tyX0_ok nmX0 hown hK hp hk_8 (by decide) rfl rfl (by decide) rfl (Or.inr ⟨_, va_Nw.use rfl (hN.1 (.fieldLinkNest RX6 167 "RecordBench$Field" "value" "J" "RecordBench") (by decide +kernel))⟩) (fun _ h9 => h9) rfl (by decide +kernel) rfl rfl dX6_takeValue_200 (fun H locs hp => ?_)
        obtain ⟨st_13, est_13, hf⟩ := nam_some hf
        rw [← est_13] at hp
        have hk_8 : qk st_13 a_6 = 3 := by rw [est_13]; exact hk_8
        refine lv_iconst (v := 1) hx hb dX6_takeValue_203 (by decide) ?_
        obtain ⟨e1, e2⟩ := pr_some hf
        exact W.zret (v := 1) hx hb hr rfl (fun t ht hW => ⟨⟨1, (), rfl, e1, Cp.end e2 hp ht⟩, hp.2.1.F ht⟩) hp.2.1.2.2 dX6_takeValue_204
      · have hf := pif_t c_12 hf
        exact J190 (l2, st_9) _ _ _ ⟨hf, hp, (lv_sub hl [1, 3] rfl)⟩
  refine W_blk (fun (u : (Option Nat) × Int32 × Int32 × Int64 × Int32 × CS) H locs ls => match u with | (l1, l2, l3, l5, s0, gs) => fX6_takeValue_160 h0 l1 l2 l3 l5 s0 gs = some (r, st') ∧ Cp (dC, dI) ka ad ct A s.heap gs H locs ∧ lv_has ls 10 [(0, .ref (ad h0)), (1, va_rf (Option.map ad l1)), (2, .int l2), (3, .int l3), (5, .long l5)]) (fun (u : (Option Nat) × Int32 × Int32 × Int64 × Int32 × CS) ls => match u with | (l1, l2, l3, l5, s0, gs) => F0 m 160 ls [.int s0]) ?_ (fun J160 => ?_)
  · intro u H locs ls hu
    obtain ⟨l1, l2, l3, l5, s0, gs⟩ := u
    obtain ⟨hf, hp, hl⟩ := hu
    show W p l e _ s m _ below meth c _ _ _ _ _ (F0 m 160 ls [.int s0])
    unfold fX6_takeValue_160 at hf
    refine lv_istore (i := 7) (lv' := [(7, .int s0), (0, .ref (ad h0)), (1, va_rf (Option.map ad l1)), (2, .int l2), (3, .int l3), (5, .long l5)]) hx hb dX6_takeValue_160 hl (by decide) rfl (fun ls hl => ?_)
    refine lv_iload_n hx hb dX6_takeValue_162 rfl (lv_at hl 4 rfl) ?_
    refine lv_if_eq (tgt := 172) hx hb dX6_takeValue_163 (by decide) (fun c_14 => ?_) (fun c_14 => ?_)
    · have hf := pif_t c_14 hf
      refine lv_lload hx hb dX6_takeValue_172 (lv_at hl 5 rfl) ?_
      exact J174 (l1, l2, s0, l5, gs) _ _ _ ⟨hf, hp, (lv_sub hl [1, 2, 3, 0] rfl)⟩
    · have hf := pif_f c_14 hf
      refine lv_lload hx hb dX6_takeValue_166 (lv_at hl 5 rfl) ?_
      refine lv_lneg hx hb dX6_takeValue_168 ?_
      refine lv_goto (tgt := 174) hx hb dX6_takeValue_169 (by decide) ?_
      exact J174 (l1, l2, s0, (-l5), gs) _ _ _ ⟨hf, hp, (lv_sub hl [1, 2, 3, 0] rfl)⟩
  refine W_blk (fun (u : (Option Nat) × Int32 × Int32 × Int64 × CS) H locs ls => match u with | (l1, l2, l3, l5, gs) => fX6_takeValue_159 h0 l1 l2 l3 l5 gs = some (r, st') ∧ Cp (dC, dI) ka ad ct A s.heap gs H locs ∧ lv_has ls 10 [(0, .ref (ad h0)), (1, va_rf (Option.map ad l1)), (2, .int l2), (3, .int l3), (5, .long l5)]) (fun (u : (Option Nat) × Int32 × Int32 × Int64 × CS) ls => match u with | (l1, l2, l3, l5, gs) => F0 m 159 ls []) ?_ (fun J159 => ?_)
  · intro u H locs ls hu
    obtain ⟨l1, l2, l3, l5, gs⟩ := u
    obtain ⟨hf, hp, hl⟩ := hu
    show W p l e _ s m _ below meth c _ _ _ _ _ (F0 m 159 ls [])
    unfold fX6_takeValue_159 at hf
    refine lv_iconst (v := 0) hx hb dX6_takeValue_159 (by decide) ?_
    exact J160 (l1, l2, l3, l5, 0, gs) _ _ _ ⟨hf, hp, (lv_sub hl [0, 1, 2, 3, 4] rfl)⟩
  refine W_blk (fun (u : (Option Nat) × Int32 × Int32 × Int64 × CS) H locs ls => match u with | (l1, l2, l3, l5, gs) => fX6_takeValue_155 h0 l1 l2 l3 l5 gs = some (r, st') ∧ Cp (dC, dI) ka ad ct A s.heap gs H locs ∧ lv_has ls 10 [(0, .ref (ad h0)), (1, va_rf (Option.map ad l1)), (2, .int l2), (3, .int l3), (5, .long l5)]) (fun (u : (Option Nat) × Int32 × Int32 × Int64 × CS) ls => match u with | (l1, l2, l3, l5, gs) => F0 m 155 ls []) ?_ (fun J155 => ?_)
  · intro u H locs ls hu
    obtain ⟨l1, l2, l3, l5, gs⟩ := u
    obtain ⟨hf, hp, hl⟩ := hu
    show W p l e _ s m _ below meth c _ _ _ _ _ (F0 m 155 ls [])
    unfold fX6_takeValue_155 at hf
    refine lv_iconst (v := 1) hx hb dX6_takeValue_155 (by decide) ?_
    refine lv_goto (tgt := 160) hx hb dX6_takeValue_156 (by decide) ?_
    exact J160 (l1, l2, l3, l5, 1, gs) _ _ _ ⟨hf, hp, (lv_sub hl [0, 1, 2, 3, 4] rfl)⟩
  refine W_blk (fun (gs : CS) H locs ls => fX6_takeValue_125 h0 gs = some (r, st') ∧ Cp (dC, dI) ka ad ct A s.heap gs H locs ∧ lv_has ls 10 [(0, .ref (ad h0))]) (fun (gs : CS) ls => F0 m 125 ls []) ?_ (fun J125 => ?_)
  · intro u H locs ls hu
    obtain ⟨gs, rfl⟩ : ∃ z, z = u := ⟨_, rfl⟩
    obtain ⟨hf, hp, hl⟩ := hu
    show W p l e _ s m _ below meth c _ _ _ _ _ (F0 m 125 ls [])
    unfold fX6_takeValue_125 at hf
    refine lv_aload_n hx hb dX6_takeValue_125 rfl (lv_at hl 0 rfl) ?_
    refine lv_iconst (v := 1) hx hb dX6_takeValue_126 (by decide) ?_
    refine lv_aload_n hx hb dX6_takeValue_127 rfl (lv_at hl 0 rfl) ?_
    obtain ⟨hk_15, hf⟩ := gd_some hf
    refine q_gi (ci := 8) (C := RX6) (T := TX6) (N := 6) (k := 3) hx hb hts iRX6 hown hK hp hk_15 (by decide) rfl rfl (by decide) rfl (Or.inl (hts (.fieldLink RX6 26 "RecordBench$TextReader" "pos" "I") (by decide +kernel))) (fun _ h9 => h9) dX6_takeValue_128 ?_
    obtain ⟨r_18, st_16, hc_17, hf⟩ := bnd_some hf
    refine q_ci hp hA (va_runV (As := [.int 1, .int (qI gs h0 3)]) (rest := []) ⟨hx, hb, hml, hown, hts⟩ (c_X6_refuse l dC dI ka ad ct h0 1 (qI gs h0 3) _ _ _ hc_17 _) (cwV 2 hts gq_X6_takeValue_X6_refuse_48 rfl rfl rfl (by decide +kernel) ⟨Nat.le_of_ble_eq_true rfl, Nat.le_of_ble_eq_true rfl⟩) ⟨PrC.blind _, q_rv8 hK hp hC hk_15, q_pre hp hK hN hZ hC hR hL hA⟩ rfl rfl hl.1 rfl (lv_room (Nat.le_of_ble_eq_true rfl)) dX6_takeValue_131 ⟨Nat.le_of_ble_eq_true rfl, Nat.le_of_ble_eq_true rfl⟩) (fun H locs hp => ?_)
    have hk_15 : qk st_16 h0 = 9 := by rw [(mo_X6_refuse h0 1 (qI gs h0 3) _ _ _ hc_17).2.2.1]; exact hk_15
    obtain ⟨hz, hf⟩ := gd_some hf
    obtain ⟨e1, e2⟩ := pr_some hf
    exact W.zret (v := r_18) hx hb hr hz (fun t ht hW => ⟨⟨r_18, (), rfl, e1, Cp.end e2 hp ht⟩, hp.2.1.F ht⟩) hp.2.1.2.2 dX6_takeValue_134
  refine W_blk (fun (u : (Option Nat) × Int32 × Int32 × Int32 × Int64 × CS) H locs ls => match u with | (l1, l2, l3, l4, l5, gs) => fX6_takeValue_105 h0 l1 l2 l3 l4 l5 gs = some (r, st') ∧ Cp (dC, dI) ka ad ct A s.heap gs H locs ∧ lv_has ls 10 [(0, .ref (ad h0)), (1, va_rf (Option.map ad l1)), (2, .int l2), (3, .int l3), (4, .int l4), (5, .long l5)]) (fun (u : (Option Nat) × Int32 × Int32 × Int32 × Int64 × CS) ls => match u with | (l1, l2, l3, l4, l5, gs) => F0 m 105 ls []) ?_ (fun J105 => ?_)
  · intro u H locs ls hu
    obtain ⟨l1, l2, l3, l4, l5, gs⟩ := u
    obtain ⟨hf, hp, hl⟩ := hu
    show W p l e _ s m _ below meth c _ _ _ _ _ (F0 m 105 ls [])
    unfold fX6_takeValue_105 at hf
    refine lv_aload_n hx hb dX6_takeValue_105 rfl (lv_at hl 0 rfl) ?_
    obtain ⟨hk_19, hf⟩ := gd_some hf
    refine q_gi (ci := 8) (C := RX6) (T := TX6) (N := 6) (k := 3) hx hb hts iRX6 hown hK hp hk_19 (by decide) rfl rfl (by decide) rfl (Or.inl (hts (.fieldLink RX6 26 "RecordBench$TextReader" "pos" "I") (by decide +kernel))) (fun _ h9 => h9) dX6_takeValue_106 ?_
    refine lv_iload hx hb dX6_takeValue_109 (lv_at hl 4 rfl) ?_
    refine lv_icmp_eq (tgt := 125) hx hb dX6_takeValue_111 (by decide) (fun c_20 => ?_) (fun c_20 => ?_)
    · have hf := pif_t c_20 hf
      exact J125 gs _ _ _ ⟨hf, hp, (lv_sub hl [0] rfl)⟩
    · have hf := pif_f c_20 hf
      refine lv_aload_n hx hb dX6_takeValue_114 rfl (lv_at hl 0 rfl) ?_
      refine lv_aload_n hx hb dX6_takeValue_115 rfl (lv_at hl 0 rfl) ?_
      refine q_gi (ci := 8) (C := RX6) (T := TX6) (N := 6) (k := 3) hx hb hts iRX6 hown hK hp hk_19 (by decide) rfl rfl (by decide) rfl (Or.inl (hts (.fieldLink RX6 26 "RecordBench$TextReader" "pos" "I") (by decide +kernel))) (fun _ h9 => h9) dX6_takeValue_116 ?_
      obtain ⟨r_23, st_21, hc_22, hf⟩ := bnd_some hf
      refine q_ci hp hA (va_runV (As := [.int (qI gs h0 3)]) (rest := []) ⟨hx, hb, hml, hown, hts⟩ (c_X6_isDigit l dC dI ka ad ct h0 (qI gs h0 3) _ _ _ hc_22 _) (cwV 1 hts gq_X6_takeValue_X6_isDigit_93 rfl rfl rfl (by decide +kernel) ⟨Nat.le_of_ble_eq_true rfl, Nat.le_of_ble_eq_true rfl⟩) ⟨PrC.blind _, q_rv8 hK hp hC hk_19, q_pre hp hK hN hZ hC hR hL hA⟩ rfl rfl hl.1 rfl (lv_room (Nat.le_of_ble_eq_true rfl)) dX6_takeValue_119 ⟨Nat.le_of_ble_eq_true rfl, Nat.le_of_ble_eq_true rfl⟩) (fun H locs hp => ?_)
      have hk_19 : qk st_21 h0 = 9 := by rw [(mo_X6_isDigit h0 (qI gs h0 3) _ _ _ hc_22).2.2.1]; exact hk_19
      refine lv_if_eq (tgt := 135) hx hb dX6_takeValue_122 (by decide) (fun c_24 => ?_) (fun c_24 => ?_)
      · have hf := pif_t c_24 hf
        refine lv_lload hx hb dX6_takeValue_135 (lv_at hl 5 rfl) ?_
        refine lv_lconst (v := 0) hx hb dX6_takeValue_137 (by decide) ?_
        refine W.lcmp hx hb dX6_takeValue_138 ?_
        refine lv_if_ge (tgt := 155) hx hb dX6_takeValue_139 (by decide) (fun c_25 => ?_) (fun c_25 => ?_)
        · have hf := pif_t c_25 hf
          exact J155 (l1, l2, l3, l5, st_21) _ _ _ ⟨hf, hp, (lv_sub hl [0, 1, 2, 3, 5] rfl)⟩
        · have hf := pif_f c_25 hf
          refine lv_iload_n hx hb dX6_takeValue_142 rfl (lv_at hl 3 rfl) ?_
          refine lv_if_eq (tgt := 159) hx hb dX6_takeValue_143 (by decide) (fun c_26 => ?_) (fun c_26 => ?_)
          · have hf := pif_t c_26 hf
            exact J159 (l1, l2, l3, l5, st_21) _ _ _ ⟨hf, hp, (lv_sub hl [0, 1, 2, 3, 5] rfl)⟩
          · have hf := pif_f c_26 hf
            refine lv_lload hx hb dX6_takeValue_146 (lv_at hl 5 rfl) ?_
            refine lv_ldc2 hx hb hown (hts (.constantLong RX6 161 (-9223372036854775808)) (by decide +kernel)) dX6_takeValue_148 ?_
            refine W.lcmp hx hb dX6_takeValue_151 ?_
            refine lv_if_ne (tgt := 159) hx hb dX6_takeValue_152 (by decide) (fun c_27 => ?_) (fun c_27 => ?_)
            · have hf := pif_f c_27 hf
              exact J159 (l1, l2, l3, l5, st_21) _ _ _ ⟨hf, hp, (lv_sub hl [0, 1, 2, 3, 5] rfl)⟩
            · have hf := pif_t c_27 hf
              exact J155 (l1, l2, l3, l5, st_21) _ _ _ ⟨hf, hp, (lv_sub hl [0, 1, 2, 3, 5] rfl)⟩
      · have hf := pif_f c_24 hf
        exact J125 st_21 _ _ _ ⟨hf, hp, (lv_sub hl [0] rfl)⟩
  refine W_lp (fun n53 (u : (Option Nat) × Int32 × Int32 × Int32 × Int64 × Int32 × CS) H locs ls => match u with | (l1, l2, l3, l4, l5, l7, gs) => fX6_takeValue_53 h0 n53 l1 l2 l3 l4 l5 l7 gs = some (r, st') ∧ Cp (dC, dI) ka ad ct A s.heap gs H locs ∧ lv_has ls 10 [(0, .ref (ad h0)), (1, va_rf (Option.map ad l1)), (2, .int l2), (3, .int l3), (4, .int l4), (5, .long l5), (7, .int l7)]) (fun (u : (Option Nat) × Int32 × Int32 × Int32 × Int64 × Int32 × CS) ls => match u with | (l1, l2, l3, l4, l5, l7, gs) => F0 m 53 ls []) ?_ ?_ (fun J53 => ?_)
  · intro u H locs ls hu
    obtain ⟨l1, l2, l3, l4, l5, l7, gs⟩ := u
    obtain ⟨hf, hp, hl⟩ := hu
    rw [fX6_takeValue_53_z] at hf
    cases hf
  · intro n53 ih53 u H locs ls hu
    obtain ⟨l1, l2, l3, l4, l5, l7, gs⟩ := u
    obtain ⟨hf, hp, hl⟩ := hu
    show W p l e _ s m _ below meth c _ _ _ _ _ (F0 m 53 ls [])
    rw [fX6_takeValue_53_s] at hf
    refine lv_iload hx hb dX6_takeValue_53 (lv_at hl 6 rfl) ?_
    refine lv_bipush (v := 19) hx hb dX6_takeValue_55 (by decide) ?_
    refine lv_icmp_ge (tgt := 105) hx hb dX6_takeValue_57 (by decide) (fun c_28 => ?_) (fun c_28 => ?_)
    · have hf := pif_t c_28 hf
      exact J105 (l1, l2, l3, l4, l5, gs) _ _ _ ⟨hf, hp, (lv_sub hl [0, 1, 2, 3, 4, 5] rfl)⟩
    · have hf := pif_f c_28 hf
      refine lv_aload_n hx hb dX6_takeValue_60 rfl (lv_at hl 0 rfl) ?_
      refine lv_aload_n hx hb dX6_takeValue_61 rfl (lv_at hl 0 rfl) ?_
      obtain ⟨hk_29, hf⟩ := gd_some hf
      refine q_gi (ci := 8) (C := RX6) (T := TX6) (N := 6) (k := 3) hx hb hts iRX6 hown hK hp hk_29 (by decide) rfl rfl (by decide) rfl (Or.inl (hts (.fieldLink RX6 26 "RecordBench$TextReader" "pos" "I") (by decide +kernel))) (fun _ h9 => h9) dX6_takeValue_62 ?_
      obtain ⟨r_32, st_30, hc_31, hf⟩ := bnd_some hf
      refine q_ci hp hA (va_runV (As := [.int (qI gs h0 3)]) (rest := []) ⟨hx, hb, hml, hown, hts⟩ (c_X6_isDigit l dC dI ka ad ct h0 (qI gs h0 3) _ _ _ hc_31 _) (cwV 1 hts gq_X6_takeValue_X6_isDigit_93 rfl rfl rfl (by decide +kernel) ⟨Nat.le_of_ble_eq_true rfl, Nat.le_of_ble_eq_true rfl⟩) ⟨PrC.blind _, q_rv8 hK hp hC hk_29, q_pre hp hK hN hZ hC hR hL hA⟩ rfl rfl hl.1 rfl (lv_room (Nat.le_of_ble_eq_true rfl)) dX6_takeValue_65 ⟨Nat.le_of_ble_eq_true rfl, Nat.le_of_ble_eq_true rfl⟩) (fun H locs hp => ?_)
      have hk_29 : qk st_30 h0 = 9 := by rw [(mo_X6_isDigit h0 (qI gs h0 3) _ _ _ hc_31).2.2.1]; exact hk_29
      refine lv_if_eq (tgt := 105) hx hb dX6_takeValue_68 (by decide) (fun c_33 => ?_) (fun c_33 => ?_)
      · have hf := pif_t c_33 hf
        exact J105 (l1, l2, l3, l4, l5, st_30) _ _ _ ⟨hf, hp, (lv_sub hl [0, 1, 2, 3, 4, 5] rfl)⟩
      · have hf := pif_f c_33 hf
        refine lv_lload hx hb dX6_takeValue_71 (lv_at hl 5 rfl) ?_
        refine lv_ldc2 hx hb hown (hts (.constantLong RX6 159 (10)) (by decide +kernel)) dX6_takeValue_73 ?_
        refine lv_lmul hx hb dX6_takeValue_76 ?_
        refine lv_aload_n hx hb dX6_takeValue_77 rfl (lv_at hl 0 rfl) ?_
        refine lv_aload_n hx hb dX6_takeValue_78 rfl (lv_at hl 0 rfl) ?_
        refine q_gi (ci := 8) (C := RX6) (T := TX6) (N := 6) (k := 3) hx hb hts iRX6 hown hK hp hk_29 (by decide) rfl rfl (by decide) rfl (Or.inl (hts (.fieldLink RX6 26 "RecordBench$TextReader" "pos" "I") (by decide +kernel))) (fun _ h9 => h9) dX6_takeValue_79 ?_
        obtain ⟨r_36, st_34, hc_35, hf⟩ := bnd_some hf
        refine q_ci hp hA (va_runV (As := [.int (qI st_30 h0 3)]) (rest := [.long (l5 * 10)]) ⟨hx, hb, hml, hown, hts⟩ (c_X6_digitAt l dC dI ka ad ct h0 (qI st_30 h0 3) _ _ _ hc_35 _) (cwV 1 hts gq_X6_takeValue_X6_digitAt_97 rfl rfl rfl (by decide +kernel) ⟨Nat.le_of_ble_eq_true rfl, Nat.le_of_ble_eq_true rfl⟩) ⟨PrC.blind _, q_rv8 hK hp hC hk_29, q_pre hp hK hN hZ hC hR hL hA⟩ rfl rfl hl.1 rfl (lv_room (Nat.le_of_ble_eq_true rfl)) dX6_takeValue_82 ⟨Nat.le_of_ble_eq_true rfl, Nat.le_of_ble_eq_true rfl⟩) (fun H locs hp => ?_)
        have hk_29 : qk st_34 h0 = 9 := by rw [(mo_X6_digitAt h0 (qI st_30 h0 3) _ _ _ hc_35).2.2.1]; exact hk_29
        refine lv_i2l (v := r_36.toInt64) hx hb dX6_takeValue_85 rfl ?_
        refine lv_ladd hx hb dX6_takeValue_86 ?_
        obtain ⟨v_37, ev_37, hf⟩ := nam_some hf
        refine W_tol (y := v_37) ev_37.symm ?_
        refine lv_lstore (i := 5) (lv' := [(5, .long v_37), (0, .ref (ad h0)), (1, va_rf (Option.map ad l1)), (2, .int l2), (3, .int l3), (4, .int l4), (7, .int l7)]) hx hb dX6_takeValue_87 hl (by decide) rfl (fun ls hl => ?_)
        refine lv_aload_n hx hb dX6_takeValue_89 rfl (lv_at hl 1 rfl) ?_
        refine lv_dup hx hb dX6_takeValue_90 rfl ?_
        refine q_gi (ci := 8) (C := RX6) (T := TX6) (N := 6) (k := 3) hx hb hts iRX6 hown hK hp hk_29 (by decide) rfl rfl (by decide) rfl (Or.inl (hts (.fieldLink RX6 26 "RecordBench$TextReader" "pos" "I") (by decide +kernel))) (fun _ h9 => h9) dX6_takeValue_91 ?_
        refine lv_iconst (v := 1) hx hb dX6_takeValue_94 (by decide) ?_
        refine lv_iadd hx hb dX6_takeValue_95 ?_
        refine q_pi (ci := 8) (C := RX6) (T := TX6) (N := 6) (k := 3) (v := (qI st_34 h0 3) + 1) (ty := .int) hx hb hts iRX6 tyX6 tyX6_ok nmX6 hown hK hp hk_29 (by decide) rfl rfl (by decide) rfl (Or.inl (hts (.fieldLink RX6 26 "RecordBench$TextReader" "pos" "I") (by decide +kernel))) (fun _ h9 => h9) rfl (by decide +kernel) rfl rfl dX6_takeValue_96 (fun H locs hp => ?_)
        obtain ⟨st_38, est_38, hf⟩ := nam_some hf
        rw [← est_38] at hp
        have hk_29 : qk st_38 h0 = 9 := by rw [est_38]; exact hk_29
        obtain ⟨v_39, ev_39, hf⟩ := nam_some hf
        refine lv_iinc (v := v_39) (lv' := [(7, .int v_39), (5, .long v_37), (0, .ref (ad h0)), (1, va_rf (Option.map ad l1)), (2, .int l2), (3, .int l3), (4, .int l4)]) hx hb dX6_takeValue_99 hl (k := 6) rfl ev_39.symm (by decide) rfl (fun ls hl => ?_)
        refine lv_goto (tgt := 53) hx hb dX6_takeValue_102 (by decide) ?_
        exact ih53 (l1, l2, l3, l4, v_37, v_39, st_38) _ _ _ ⟨hf, hp, (lv_sub hl [2, 3, 4, 5, 6, 1, 0] rfl)⟩
  refine W_blk (fun (u : (Option Nat) × Int32 × Int32 × CS) H locs ls => match u with | (l1, l2, l3, gs) => fX6_takeValue_41 h0 l1 l2 l3 gs = some (r, st') ∧ Cp (dC, dI) ka ad ct A s.heap gs H locs ∧ lv_has ls 10 [(0, .ref (ad h0)), (1, va_rf (Option.map ad l1)), (2, .int l2), (3, .int l3)]) (fun (u : (Option Nat) × Int32 × Int32 × CS) ls => match u with | (l1, l2, l3, gs) => F0 m 41 ls []) ?_ (fun J41 => ?_)
  · intro u H locs ls hu
    obtain ⟨l1, l2, l3, gs⟩ := u
    obtain ⟨hf, hp, hl⟩ := hu
    show W p l e _ s m _ below meth c _ _ _ _ _ (F0 m 41 ls [])
    unfold fX6_takeValue_41 at hf
    refine lv_aload_n hx hb dX6_takeValue_41 rfl (lv_at hl 0 rfl) ?_
    obtain ⟨hk_40, hf⟩ := gd_some hf
    refine q_gi (ci := 8) (C := RX6) (T := TX6) (N := 6) (k := 3) hx hb hts iRX6 hown hK hp hk_40 (by decide) rfl rfl (by decide) rfl (Or.inl (hts (.fieldLink RX6 26 "RecordBench$TextReader" "pos" "I") (by decide +kernel))) (fun _ h9 => h9) dX6_takeValue_42 ?_
    obtain ⟨v_41, ev_41, hf⟩ := nam_some hf
    refine W_toi (y := v_41) ev_41.symm ?_
    refine lv_istore (i := 4) (lv' := [(4, .int v_41), (0, .ref (ad h0)), (1, va_rf (Option.map ad l1)), (2, .int l2), (3, .int l3)]) hx hb dX6_takeValue_45 hl (by decide) rfl (fun ls hl => ?_)
    refine lv_lconst (v := 0) hx hb dX6_takeValue_47 (by decide) ?_
    refine lv_lstore (i := 5) (lv' := [(5, .long 0), (4, .int v_41), (0, .ref (ad h0)), (1, va_rf (Option.map ad l1)), (2, .int l2), (3, .int l3)]) hx hb dX6_takeValue_48 hl (by decide) rfl (fun ls hl => ?_)
    refine lv_iconst (v := 0) hx hb dX6_takeValue_50 (by decide) ?_
    refine lv_istore (i := 7) (lv' := [(7, .int 0), (5, .long 0), (4, .int v_41), (0, .ref (ad h0)), (1, va_rf (Option.map ad l1)), (2, .int l2), (3, .int l3)]) hx hb dX6_takeValue_51 hl (by decide) rfl (fun ls hl => ?_)
    exact J53 fuel (l1, l2, l3, v_41, 0, 0, gs) _ _ _ ⟨hf, hp, (lv_sub hl [3, 4, 5, 6, 2, 1, 0] rfl)⟩
  refine W_blk (fun (u : (Option Nat) × Int32 × Int32 × CS) H locs ls => match u with | (l1, l2, s0, gs) => fX6_takeValue_26 h0 l1 l2 s0 gs = some (r, st') ∧ Cp (dC, dI) ka ad ct A s.heap gs H locs ∧ lv_has ls 10 [(0, .ref (ad h0)), (1, va_rf (Option.map ad l1)), (2, .int l2)]) (fun (u : (Option Nat) × Int32 × Int32 × CS) ls => match u with | (l1, l2, s0, gs) => F0 m 26 ls [.int s0]) ?_ (fun J26 => ?_)
  · intro u H locs ls hu
    obtain ⟨l1, l2, s0, gs⟩ := u
    obtain ⟨hf, hp, hl⟩ := hu
    show W p l e _ s m _ below meth c _ _ _ _ _ (F0 m 26 ls [.int s0])
    unfold fX6_takeValue_26 at hf
    refine lv_istore_n (i := 3) (lv' := [(3, .int s0), (0, .ref (ad h0)), (1, va_rf (Option.map ad l1)), (2, .int l2)]) hx hb dX6_takeValue_26 rfl hl (by decide) rfl (fun ls hl => ?_)
    refine lv_iload_n hx hb dX6_takeValue_27 rfl (lv_at hl 0 rfl) ?_
    refine lv_if_eq (tgt := 41) hx hb dX6_takeValue_28 (by decide) (fun c_42 => ?_) (fun c_42 => ?_)
    · have hf := pif_t c_42 hf
      exact J41 (l1, l2, s0, gs) _ _ _ ⟨hf, hp, (lv_sub hl [1, 2, 3, 0] rfl)⟩
    · have hf := pif_f c_42 hf
      refine lv_aload_n hx hb dX6_takeValue_31 rfl (lv_at hl 1 rfl) ?_
      refine lv_dup hx hb dX6_takeValue_32 rfl ?_
      obtain ⟨hk_43, hf⟩ := gd_some hf
      refine q_gi (ci := 8) (C := RX6) (T := TX6) (N := 6) (k := 3) hx hb hts iRX6 hown hK hp hk_43 (by decide) rfl rfl (by decide) rfl (Or.inl (hts (.fieldLink RX6 26 "RecordBench$TextReader" "pos" "I") (by decide +kernel))) (fun _ h9 => h9) dX6_takeValue_33 ?_
      refine lv_iconst (v := 1) hx hb dX6_takeValue_36 (by decide) ?_
      refine lv_iadd hx hb dX6_takeValue_37 ?_
      refine q_pi (ci := 8) (C := RX6) (T := TX6) (N := 6) (k := 3) (v := (qI gs h0 3) + 1) (ty := .int) hx hb hts iRX6 tyX6 tyX6_ok nmX6 hown hK hp hk_43 (by decide) rfl rfl (by decide) rfl (Or.inl (hts (.fieldLink RX6 26 "RecordBench$TextReader" "pos" "I") (by decide +kernel))) (fun _ h9 => h9) rfl (by decide +kernel) rfl rfl dX6_takeValue_38 (fun H locs hp => ?_)
      obtain ⟨st_44, est_44, hf⟩ := nam_some hf
      rw [← est_44] at hp
      have hk_43 : qk st_44 h0 = 9 := by rw [est_44]; exact hk_43
      exact J41 (l1, l2, s0, st_44) _ _ _ ⟨hf, hp, (lv_sub hl [1, 2, 3, 0] rfl)⟩
  unfold fX6_takeValue at hf
  refine lv_aload_n hx hb dX6_takeValue_0 rfl (lv_at hl 0 rfl) ?_
  obtain ⟨hk_45, hf⟩ := gd_some hf
  refine q_gi (ci := 8) (C := RX6) (T := TX6) (N := 6) (k := 3) hx hb hts iRX6 hown hK hp hk_45 (by decide) rfl rfl (by decide) rfl (Or.inl (hts (.fieldLink RX6 26 "RecordBench$TextReader" "pos" "I") (by decide +kernel))) (fun _ h9 => h9) dX6_takeValue_1 ?_
  obtain ⟨v_46, ev_46, hf⟩ := nam_some hf
  refine W_toi (y := v_46) ev_46.symm ?_
  refine lv_istore_n (i := 2) (lv' := [(2, .int v_46), (0, .ref (ad h0)), (1, va_rf (Option.map ad p0))]) hx hb dX6_takeValue_4 rfl hl (by decide) (by simp [rf_cat, vc_i, vc_l, vc_r, vc_n]) (fun ls hl => ?_)
  refine lv_aload_n hx hb dX6_takeValue_5 rfl (lv_at hl 1 rfl) ?_
  refine q_gp (ci := 8) (C := RX6) (T := TX6) (N := 6) (k := 0) hx hb hts iRX6 hown hK hp hk_45 (by decide) rfl rfl (by decide) rfl (Or.inl (hts (.fieldLink RX6 9 "RecordBench$TextReader" "tape" "LRecordBench$Row;") (by decide +kernel))) (fun _ h9 => h9) dX6_takeValue_6 ?_
  refine lv_aload_n hx hb dX6_takeValue_9 rfl (lv_at hl 1 rfl) ?_
  refine q_gi (ci := 8) (C := RX6) (T := TX6) (N := 6) (k := 3) hx hb hts iRX6 hown hK hp hk_45 (by decide) rfl rfl (by decide) rfl (Or.inl (hts (.fieldLink RX6 26 "RecordBench$TextReader" "pos" "I") (by decide +kernel))) (fun _ h9 => h9) dX6_takeValue_10 ?_
  obtain ⟨a_47, ha_48, hf⟩ := ono_some hf
  refine o_at1 ha_48 ?_
  obtain ⟨hk_49, hf⟩ := gd_some hf
  obtain ⟨r_52, st_50, hc_51, hf⟩ := bnd_some hf
  refine q_ci hp hA (va_runV (As := [.int (qI st h0 3)]) (rest := []) ⟨hx, hb, hml, hown, hts⟩ (c_X5_byteAt l dC dI ka ad ct a_47 (qI st h0 3) _ _ _ hc_51 _) (cwV 1 hts gq_X6_takeValue_X5_byteAt_150 rfl rfl rfl (by decide +kernel) ⟨Nat.le_of_ble_eq_true rfl, Nat.le_of_ble_eq_true rfl⟩) ⟨PrC.blind _, q_rv7 hK hp hC hk_49, q_pre hp hK hN hZ hC hR hL hA⟩ rfl rfl hl.1 rfl (lv_room (Nat.le_of_ble_eq_true rfl)) dX6_takeValue_13 ⟨Nat.le_of_ble_eq_true rfl, Nat.le_of_ble_eq_true rfl⟩) (fun H locs hp => ?_)
  have hk_45 : qk st_50 h0 = 9 := by rw [(mo_X5_byteAt a_47 (qI st h0 3) _ _ _ hc_51).2.2.1]; exact hk_45
  have hk_49 : qk st_50 a_47 = 8 := by rw [(mo_X5_byteAt a_47 (qI st h0 3) _ _ _ hc_51).2.2.1]; exact hk_49
  refine lv_bipush (v := 45) hx hb dX6_takeValue_16 (by decide) ?_
  refine lv_icmp_ne (tgt := 25) hx hb dX6_takeValue_18 (by decide) (fun c_53 => ?_) (fun c_53 => ?_)
  · have hf := pif_f c_53 hf
    refine lv_iconst (v := 0) hx hb dX6_takeValue_25 (by decide) ?_
    exact J26 (p0, v_46, 0, st_50) _ _ _ ⟨hf, hp, (lv_sub hl [1, 2, 0] rfl)⟩
  · have hf := pif_t c_53 hf
    refine lv_iconst (v := 1) hx hb dX6_takeValue_21 (by decide) ?_
    refine lv_goto (tgt := 26) hx hb dX6_takeValue_22 (by decide) ?_
    exact J26 (p0, v_46, 1, st_50) _ _ _ ⟨hf, hp, (lv_sub hl [1, 2, 0] rfl)⟩
noncomputable def fX6_takeClose (h0 : Nat) (st : CS) : Option (Int32 × CS) := gd (qk st h0 = 9) (bnv (fX6_skipBlanks h0 st) (fun st_2 => ono (qP st_2 h0 0) (fun a_5 => gd (qk st_2 a_5 = 8) (bnd (fX5_byteAt a_5 (qI st_2 h0 3) st_2) (fun r_10 st_8 => pif (r_10 = 59) (nam (wI st_8 h0 3 ((qI st_8 h0 3) + 1)) (fun st_12 => some ((1 : Int32), st_12))) (bnd (fX6_refuse h0 1 (qI st_8 h0 3) st_8) (fun r_15 st_13 => gd (narrow .boolean (.int r_15) = .int r_15) (some (r_15, st_13)))))))))
set_option maxHeartbeats 1000000 in
theorem mo_X6_takeClose (h0 : Nat) (st : CS) (r : Int32) (st' : CS) (hf : fX6_takeClose h0 st = some (r, st')) : Ke st st' := by
  unfold fX6_takeClose at hf
  have hm : Ke st st := Ke.rf
  obtain ⟨hk_1, hf⟩ := gd_some hf
  obtain ⟨st_2, hc_3, hf⟩ := bnv_some hf
  have hm := hm.tr (mo_X6_skipBlanks h0 _ _ hc_3)
  obtain ⟨a_5, ha_6, hf⟩ := ono_some hf
  obtain ⟨hk_7, hf⟩ := gd_some hf
  obtain ⟨r_10, st_8, hc_9, hf⟩ := bnd_some hf
  have hm := hm.tr (mo_X5_byteAt a_5 (qI st_2 h0 3) _ _ _ hc_9)
  rcases pif_or hf with ⟨c_11, hf⟩ | ⟨c_11, hf⟩
  · obtain ⟨st_12, est_12, hf⟩ := nam_some hf
    have hm := hm.wI est_12
    obtain ⟨e1, e2⟩ := pr_some hf
    exact e2 ▸ hm
  · obtain ⟨r_15, st_13, hc_14, hf⟩ := bnd_some hf
    have hm := hm.tr (mo_X6_refuse h0 1 (qI st_8 h0 3) _ _ _ hc_14)
    obtain ⟨hz, hf⟩ := gd_some hf
    obtain ⟨e1, e2⟩ := pr_some hf
    exact e2 ▸ hm
def wq_X6_takeClose : List Cond := .code yX6_takeClose cX6_takeClose 1 (some .boolean) :: (([.fieldLink RX6 9 "RecordBench$TextReader" "tape" "LRecordBench$Row;", .fieldLink RX6 26 "RecordBench$TextReader" "pos" "I", .methodLink RX6 39 yX6_skipBlanks, .instanceMethod yX6_skipBlanks, .selects RX6 yX6_skipBlanks yX6_skipBlanks, .initialized RX6, .methodLink RX6 150 yX5_byteAt, .instanceMethod yX5_byteAt, .selects RX5 yX5_byteAt yX5_byteAt, .initialized RX5, .methodLink RX6 48 yX6_refuse, .instanceMethod yX6_refuse, .selects RX6 yX6_refuse yX6_refuse, .code yX6_skipBlanks cX6_skipBlanks 3 none, .methodLink RX6 42 yX5_size, .instanceMethod yX5_size, .selects RX5 yX5_size yX5_size, .methodLink RX6 189 yX6_isBlank, .static yX6_isBlank, .code yX5_size cX5_size 1 (some .int), .fieldLink RX5 21 "RecordBench$Row" "size" "I", .code yX5_byteAt cX5_byteAt 2 (some .int), .fieldLink RX5 15 "RecordBench$Row" "bytes" "[I", .code yX6_isBlank cX6_isBlank 1 (some .boolean), .code yX6_refuse cX6_refuse 3 (some .boolean), .fieldLink RX6 30 "RecordBench$TextReader" "fault" "I", .fieldLink RX6 33 "RecordBench$TextReader" "place" "I"] : List Cond) ++ wsX60 ++ wsX50)
theorem gs_wq_X6_takeClose_wsX60 : GoodIn wq_X6_takeClose wsX60 := fun w h => ⟨List.mem_cons_of_mem _ (List.mem_append_left _ (List.mem_append_right _ h)), (gt_wsX60 w h).2⟩
theorem gs_wq_X6_takeClose_wsX50 : GoodIn wq_X6_takeClose wsX50 := fun w h => ⟨List.mem_cons_of_mem _ (List.mem_append_right _ h), (gt_wsX50 w h).2⟩
set_option maxRecDepth 20000 in
theorem gq_X6_takeClose_X6_skipBlanks_39 : GoodIn wq_X6_takeClose (wsV RX6 39 RX6 yX6_skipBlanks wq_X6_skipBlanks) := goodIn_app (goodIn_r _ [3, 4, 5, 6] rfl rfl) (goodIn_ca (goodIn_ca (goodIn_r _ [14, 2, 1, 15, 16, 17, 10, 7, 8, 9, 18, 19, 6, 20, 21, 22, 23, 24] rfl rfl) gs_wq_X6_takeClose_wsX60) gs_wq_X6_takeClose_wsX50)
set_option maxRecDepth 20000 in
theorem gq_X6_takeClose_X5_byteAt_150 : GoodIn wq_X6_takeClose (wsV RX6 150 RX5 yX5_byteAt wq_X5_byteAt) := goodIn_app (goodIn_r _ [7, 8, 9, 10] rfl rfl) (goodIn_ca (goodIn_r _ [22, 21, 23] rfl rfl) gs_wq_X6_takeClose_wsX50)
set_option maxRecDepth 20000 in
theorem gq_X6_takeClose_X6_refuse_48 : GoodIn wq_X6_takeClose (wsV RX6 48 RX6 yX6_refuse wq_X6_refuse) := goodIn_app (goodIn_r _ [11, 12, 13, 6] rfl rfl) (goodIn_ca (goodIn_r _ [25, 26, 27] rfl rfl) gs_wq_X6_takeClose_wsX60)
set_option maxHeartbeats 4000000 in
set_option maxRecDepth 100000 in
theorem c_X6_takeClose (l : Launch) (dC : Nat → ClassId) (dI : Nat → Nat → Nat) (ka ad : Nat → Nat) (ct : Nat → ClassId) (h0 : Nat) (st st' : CS) (r : Int32) (hf : fX6_takeClose h0 st = some (r, st')) (sz : Nat) : Met l yX6_takeClose wq_X6_takeClose ({ frames := 2, cells := 0, slots := 0, locals := 51 }) (va_Pc [.ref (ad h0)] (PrC (dC, dI) ct ka ad st sz)) (va_Qi (fun r' (_ : Unit) => r' = r) (fun _ => CB (dC, dI) ct ka ad st' (aC ad st sz)) (aC ad st sz)) 0 0 (aC ad st sz) := by
  refine Met.ofW (cc := cX6_takeClose) (maxL := 1) (ret := (some .boolean)) (by decide) rfl ?_
  intro p e s m args below meth c s₁ B hml hv
  obtain ⟨rfl, hsz, hw0, hK, hN, hZ, hC, hR, hL, hw1, hw2⟩ := hv
  have hx := B.exec
  have hb := B.bytes
  have hr := B.returns
  have hts := atoms_spec (ws := wq_X6_takeClose) B.pre
  have hown : s.vm.findClass RX6 = some m.cls := findClass_of_methodNamed B.named
  have iRX6 : ∀ w ∈ u_ws RX6 TX6 6, w ∈ wq_X6_takeClose := fun w h => List.mem_cons_of_mem _ (List.mem_append_left _ (List.mem_append_right _ h))
  subst hsz
  have hp : Cp (dC, dI) ka ad ct (aC ad st s.heap.size) s.heap st s.heap [] := ⟨fun i a b => ⟨hw0 i a b, Or.inl ⟨i, a, b, rfl⟩⟩, va_S.rf, hw1, hw2⟩
  generalize hAe : aC ad st s.heap.size = A at hp hZ hC ⊢
  have hA : ∀ q : Nat, s.heap.size ≤ q → A q := fun q h => by rw [← hAe]; exact Or.inr h
  have hl := lv_entry ([.ref (ad h0)]) (n := 1) (Nat.le_of_ble_eq_true rfl)
  rw [lg_entry_eq]
  generalize (lg_sl ([.ref (ad h0)]) ++ List.replicate (1 - (lg_sl ([.ref (ad h0)])).length) Slot.unset).toArray = ls at hl ⊢
  have hl : lv_has ls 1 [(0, .ref (ad h0))] := hl
  unfold fX6_takeClose at hf
  refine lv_aload_n hx hb dX6_takeClose_0 rfl (lv_at hl 0 rfl) ?_
  obtain ⟨hk_1, hf⟩ := gd_some hf
  obtain ⟨st_2, hc_3, hf⟩ := bnv_some hf
  refine q_cv hp hA (va_runV (As := []) (rest := []) ⟨hx, hb, hml, hown, hts⟩ (c_X6_skipBlanks l dC dI ka ad ct h0 _ _ hc_3 _) (cwV 0 hts gq_X6_takeClose_X6_skipBlanks_39 rfl rfl rfl (by decide +kernel) ⟨Nat.le_of_ble_eq_true rfl, Nat.le_of_ble_eq_true rfl⟩) ⟨PrC.blind _, q_rv8 hK hp hC hk_1, q_pre hp hK hN hZ hC hR hL hA⟩ rfl rfl hl.1 rfl (lv_room (Nat.le_of_ble_eq_true rfl)) dX6_takeClose_1 ⟨Nat.le_of_ble_eq_true rfl, Nat.le_of_ble_eq_true rfl⟩) (fun H locs hp => ?_)
  have hk_1 : qk st_2 h0 = 9 := by rw [(mo_X6_skipBlanks h0 _ _ hc_3).2.2.1]; exact hk_1
  refine lv_aload_n hx hb dX6_takeClose_4 rfl (lv_at hl 0 rfl) ?_
  refine q_gp (ci := 8) (C := RX6) (T := TX6) (N := 6) (k := 0) hx hb hts iRX6 hown hK hp hk_1 (by decide) rfl rfl (by decide) rfl (Or.inl (hts (.fieldLink RX6 9 "RecordBench$TextReader" "tape" "LRecordBench$Row;") (by decide +kernel))) (fun _ h9 => h9) dX6_takeClose_5 ?_
  refine lv_aload_n hx hb dX6_takeClose_8 rfl (lv_at hl 0 rfl) ?_
  refine q_gi (ci := 8) (C := RX6) (T := TX6) (N := 6) (k := 3) hx hb hts iRX6 hown hK hp hk_1 (by decide) rfl rfl (by decide) rfl (Or.inl (hts (.fieldLink RX6 26 "RecordBench$TextReader" "pos" "I") (by decide +kernel))) (fun _ h9 => h9) dX6_takeClose_9 ?_
  obtain ⟨a_5, ha_6, hf⟩ := ono_some hf
  refine o_at1 ha_6 ?_
  obtain ⟨hk_7, hf⟩ := gd_some hf
  obtain ⟨r_10, st_8, hc_9, hf⟩ := bnd_some hf
  refine q_ci hp hA (va_runV (As := [.int (qI st_2 h0 3)]) (rest := []) ⟨hx, hb, hml, hown, hts⟩ (c_X5_byteAt l dC dI ka ad ct a_5 (qI st_2 h0 3) _ _ _ hc_9 _) (cwV 1 hts gq_X6_takeClose_X5_byteAt_150 rfl rfl rfl (by decide +kernel) ⟨Nat.le_of_ble_eq_true rfl, Nat.le_of_ble_eq_true rfl⟩) ⟨PrC.blind _, q_rv7 hK hp hC hk_7, q_pre hp hK hN hZ hC hR hL hA⟩ rfl rfl hl.1 rfl (lv_room (Nat.le_of_ble_eq_true rfl)) dX6_takeClose_12 ⟨Nat.le_of_ble_eq_true rfl, Nat.le_of_ble_eq_true rfl⟩) (fun H locs hp => ?_)
  have hk_1 : qk st_8 h0 = 9 := by rw [(mo_X5_byteAt a_5 (qI st_2 h0 3) _ _ _ hc_9).2.2.1]; exact hk_1
  have hk_7 : qk st_8 a_5 = 8 := by rw [(mo_X5_byteAt a_5 (qI st_2 h0 3) _ _ _ hc_9).2.2.1]; exact hk_7
  refine lv_bipush (v := 59) hx hb dX6_takeClose_15 (by decide) ?_
  refine lv_icmp_eq (tgt := 30) hx hb dX6_takeClose_17 (by decide) (fun c_11 => ?_) (fun c_11 => ?_)
  · have hf := pif_t c_11 hf
    refine lv_aload_n hx hb dX6_takeClose_30 rfl (lv_at hl 0 rfl) ?_
    refine lv_dup hx hb dX6_takeClose_31 rfl ?_
    refine q_gi (ci := 8) (C := RX6) (T := TX6) (N := 6) (k := 3) hx hb hts iRX6 hown hK hp hk_1 (by decide) rfl rfl (by decide) rfl (Or.inl (hts (.fieldLink RX6 26 "RecordBench$TextReader" "pos" "I") (by decide +kernel))) (fun _ h9 => h9) dX6_takeClose_32 ?_
    refine lv_iconst (v := 1) hx hb dX6_takeClose_35 (by decide) ?_
    refine lv_iadd hx hb dX6_takeClose_36 ?_
    refine q_pi (ci := 8) (C := RX6) (T := TX6) (N := 6) (k := 3) (v := (qI st_8 h0 3) + 1) (ty := .int) hx hb hts iRX6 tyX6 tyX6_ok nmX6 hown hK hp hk_1 (by decide) rfl rfl (by decide) rfl (Or.inl (hts (.fieldLink RX6 26 "RecordBench$TextReader" "pos" "I") (by decide +kernel))) (fun _ h9 => h9) rfl (by decide +kernel) rfl rfl dX6_takeClose_37 (fun H locs hp => ?_)
    obtain ⟨st_12, est_12, hf⟩ := nam_some hf
    rw [← est_12] at hp
    have hk_1 : qk st_12 h0 = 9 := by rw [est_12]; exact hk_1
    have hk_7 : qk st_12 a_5 = 8 := by rw [est_12]; exact hk_7
    refine lv_iconst (v := 1) hx hb dX6_takeClose_40 (by decide) ?_
    obtain ⟨e1, e2⟩ := pr_some hf
    exact W.zret (v := 1) hx hb hr rfl (fun t ht hW => ⟨⟨1, (), rfl, e1, Cp.end e2 hp ht⟩, hp.2.1.F ht⟩) hp.2.1.2.2 dX6_takeClose_41
  · have hf := pif_f c_11 hf
    refine lv_aload_n hx hb dX6_takeClose_20 rfl (lv_at hl 0 rfl) ?_
    refine lv_iconst (v := 1) hx hb dX6_takeClose_21 (by decide) ?_
    refine lv_aload_n hx hb dX6_takeClose_22 rfl (lv_at hl 0 rfl) ?_
    refine q_gi (ci := 8) (C := RX6) (T := TX6) (N := 6) (k := 3) hx hb hts iRX6 hown hK hp hk_1 (by decide) rfl rfl (by decide) rfl (Or.inl (hts (.fieldLink RX6 26 "RecordBench$TextReader" "pos" "I") (by decide +kernel))) (fun _ h9 => h9) dX6_takeClose_23 ?_
    obtain ⟨r_15, st_13, hc_14, hf⟩ := bnd_some hf
    refine q_ci hp hA (va_runV (As := [.int 1, .int (qI st_8 h0 3)]) (rest := []) ⟨hx, hb, hml, hown, hts⟩ (c_X6_refuse l dC dI ka ad ct h0 1 (qI st_8 h0 3) _ _ _ hc_14 _) (cwV 2 hts gq_X6_takeClose_X6_refuse_48 rfl rfl rfl (by decide +kernel) ⟨Nat.le_of_ble_eq_true rfl, Nat.le_of_ble_eq_true rfl⟩) ⟨PrC.blind _, q_rv8 hK hp hC hk_1, q_pre hp hK hN hZ hC hR hL hA⟩ rfl rfl hl.1 rfl (lv_room (Nat.le_of_ble_eq_true rfl)) dX6_takeClose_26 ⟨Nat.le_of_ble_eq_true rfl, Nat.le_of_ble_eq_true rfl⟩) (fun H locs hp => ?_)
    have hk_1 : qk st_13 h0 = 9 := by rw [(mo_X6_refuse h0 1 (qI st_8 h0 3) _ _ _ hc_14).2.2.1]; exact hk_1
    have hk_7 : qk st_13 a_5 = 8 := by rw [(mo_X6_refuse h0 1 (qI st_8 h0 3) _ _ _ hc_14).2.2.1]; exact hk_7
    obtain ⟨hz, hf⟩ := gd_some hf
    obtain ⟨e1, e2⟩ := pr_some hf
    exact W.zret (v := r_15) hx hb hr hz (fun t ht hW => ⟨⟨r_15, (), rfl, e1, Cp.end e2 hp ht⟩, hp.2.1.F ht⟩) hp.2.1.2.2 dX6_takeClose_29
