theorem dX3_countPieces_0 : decode cX3_countPieces 0 = .ok (.aload_n 0, 1) := by decide +kernel
theorem dX3_countPieces_1 : decode cX3_countPieces 1 = .ok (.getfield 17, 3) := by decide +kernel
theorem dX3_countPieces_11 : decode cX3_countPieces 11 = .ok (.iconst 0, 1) := by decide +kernel
theorem dX3_countPieces_12 : decode cX3_countPieces 12 = .ok (.istore 6, 2) := by decide +kernel
theorem dX3_countPieces_14 : decode cX3_countPieces 14 = .ok (.iconst 0, 1) := by decide +kernel
theorem dX3_countPieces_15 : decode cX3_countPieces 15 = .ok (.istore 7, 2) := by decide +kernel
theorem dX3_countPieces_17 : decode cX3_countPieces 17 = .ok (.iload 7, 2) := by decide +kernel
theorem dX3_countPieces_19 : decode cX3_countPieces 19 = .ok (.bipush 120, 2) := by decide +kernel
theorem dX3_countPieces_21 : decode cX3_countPieces 21 = .ok (.if_icmp .ge 61, 3) := by decide +kernel
theorem dX3_countPieces_24 : decode cX3_countPieces 24 = .ok (.iload 6, 2) := by decide +kernel
theorem dX3_countPieces_26 : decode cX3_countPieces 26 = .ok (.aload_n 1, 1) := by decide +kernel
theorem dX3_countPieces_27 : decode cX3_countPieces 27 = .ok (.invokevirtual 29, 3) := by decide +kernel
theorem dX3_countPieces_30 : decode cX3_countPieces 30 = .ok (.if_icmp .ge 52, 3) := by decide +kernel
theorem dX3_countPieces_33 : decode cX3_countPieces 33 = .ok (.aload 4, 2) := by decide +kernel
theorem dX3_countPieces_35 : decode cX3_countPieces 35 = .ok (.aload_n 1, 1) := by decide +kernel
theorem dX3_countPieces_36 : decode cX3_countPieces 36 = .ok (.iload 6, 2) := by decide +kernel
theorem dX3_countPieces_38 : decode cX3_countPieces 38 = .ok (.aload_n 1, 1) := by decide +kernel
theorem dX3_countPieces_39 : decode cX3_countPieces 39 = .ok (.invokevirtual 29, 3) := by decide +kernel
theorem dX3_countPieces_4 : decode cX3_countPieces 4 = .ok (.iconst 0, 1) := by decide +kernel
theorem dX3_countPieces_42 : decode cX3_countPieces 42 = .ok (.invokevirtual 43, 3) := by decide +kernel
theorem dX3_countPieces_45 : decode cX3_countPieces 45 = .ok (.aload_n 2, 1) := by decide +kernel
theorem dX3_countPieces_46 : decode cX3_countPieces 46 = .ok (.aload 4, 2) := by decide +kernel
theorem dX3_countPieces_48 : decode cX3_countPieces 48 = .ok (.getfield 47, 3) := by decide +kernel
theorem dX3_countPieces_5 : decode cX3_countPieces 5 = .ok (.aaload, 1) := by decide +kernel
theorem dX3_countPieces_51 : decode cX3_countPieces 51 = .ok (.invokevirtual 50, 3) := by decide +kernel
theorem dX3_countPieces_54 : decode cX3_countPieces 54 = .ok (.ifnull 7, 3) := by decide +kernel
theorem dX3_countPieces_57 : decode cX3_countPieces 57 = .ok (.iconst 1, 1) := by decide +kernel
theorem dX3_countPieces_58 : decode cX3_countPieces 58 = .ok (.goto 4, 3) := by decide +kernel
theorem dX3_countPieces_6 : decode cX3_countPieces 6 = .ok (.astore 4, 2) := by decide +kernel
theorem dX3_countPieces_61 : decode cX3_countPieces 61 = .ok (.iconst 0, 1) := by decide +kernel
theorem dX3_countPieces_62 : decode cX3_countPieces 62 = .ok (.iload_n 3, 1) := by decide +kernel
theorem dX3_countPieces_63 : decode cX3_countPieces 63 = .ok (.if_icmp .ne 6, 3) := by decide +kernel
theorem dX3_countPieces_66 : decode cX3_countPieces 66 = .ok (.iinc 5 1, 3) := by decide +kernel
theorem dX3_countPieces_69 : decode cX3_countPieces 69 = .ok (.aload 4, 2) := by decide +kernel
theorem dX3_countPieces_71 : decode cX3_countPieces 71 = .ok (.getfield 67, 3) := by decide +kernel
theorem dX3_countPieces_74 : decode cX3_countPieces 74 = .ok (.istore 6, 2) := by decide +kernel
theorem dX3_countPieces_76 : decode cX3_countPieces 76 = .ok (.iinc 7 1, 3) := by decide +kernel
theorem dX3_countPieces_79 : decode cX3_countPieces 79 = .ok (.goto (-62), 3) := by decide +kernel
theorem dX3_countPieces_8 : decode cX3_countPieces 8 = .ok (.iconst 0, 1) := by decide +kernel
theorem dX3_countPieces_82 : decode cX3_countPieces 82 = .ok (.iload 5, 2) := by decide +kernel
theorem dX3_countPieces_84 : decode cX3_countPieces 84 = .ok (.ireturn, 1) := by decide +kernel
theorem dX3_countPieces_9 : decode cX3_countPieces 9 = .ok (.istore 5, 2) := by decide +kernel
theorem dX3_faultFound_0 : decode cX3_faultFound 0 = .ok (.aload_n 0, 1) := by decide +kernel
theorem dX3_faultFound_1 : decode cX3_faultFound 1 = .ok (.getfield 22, 3) := by decide +kernel
theorem dX3_faultFound_4 : decode cX3_faultFound 4 = .ok (.ireturn, 1) := by decide +kernel
theorem dX3_faultOf_0 : decode cX3_faultOf 0 = .ok (.aload_n 0, 1) := by decide +kernel
theorem dX3_faultOf_1 : decode cX3_faultOf 1 = .ok (.getfield 83, 3) := by decide +kernel
theorem dX3_faultOf_11 : decode cX3_faultOf 11 = .ok (.ireturn, 1) := by decide +kernel
theorem dX3_faultOf_12 : decode cX3_faultOf 12 = .ok (.aload_n 1, 1) := by decide +kernel
theorem dX3_faultOf_13 : decode cX3_faultOf 13 = .ok (.ifnull 16, 3) := by decide +kernel
theorem dX3_faultOf_16 : decode cX3_faultOf 16 = .ok (.aload_n 0, 1) := by decide +kernel
theorem dX3_faultOf_17 : decode cX3_faultOf 17 = .ok (.getfield 84, 3) := by decide +kernel
theorem dX3_faultOf_20 : decode cX3_faultOf 20 = .ok (.aload_n 1, 1) := by decide +kernel
theorem dX3_faultOf_21 : decode cX3_faultOf 21 = .ok (.invokevirtual 88, 3) := by decide +kernel
theorem dX3_faultOf_24 : decode cX3_faultOf 24 = .ok (.if_icmp .eq 5, 3) := by decide +kernel
theorem dX3_faultOf_27 : decode cX3_faultOf 27 = .ok (.iconst 4, 1) := by decide +kernel
theorem dX3_faultOf_28 : decode cX3_faultOf 28 = .ok (.ireturn, 1) := by decide +kernel
theorem dX3_faultOf_29 : decode cX3_faultOf 29 = .ok (.aload_n 1, 1) := by decide +kernel
theorem dX3_faultOf_30 : decode cX3_faultOf 30 = .ok (.ifnull 14, 3) := by decide +kernel
theorem dX3_faultOf_33 : decode cX3_faultOf 33 = .ok (.aload_n 0, 1) := by decide +kernel
theorem dX3_faultOf_34 : decode cX3_faultOf 34 = .ok (.aload_n 1, 1) := by decide +kernel
theorem dX3_faultOf_35 : decode cX3_faultOf 35 = .ok (.aload_n 2, 1) := by decide +kernel
theorem dX3_faultOf_36 : decode cX3_faultOf 36 = .ok (.invokestatic 92, 3) := by decide +kernel
theorem dX3_faultOf_39 : decode cX3_faultOf 39 = .ok (.ifCond .ne 5, 3) := by decide +kernel
theorem dX3_faultOf_4 : decode cX3_faultOf 4 = .ok (.ifCond .eq 8, 3) := by decide +kernel
theorem dX3_faultOf_42 : decode cX3_faultOf 42 = .ok (.iconst 5, 1) := by decide +kernel
theorem dX3_faultOf_43 : decode cX3_faultOf 43 = .ok (.ireturn, 1) := by decide +kernel
theorem dX3_faultOf_44 : decode cX3_faultOf 44 = .ok (.aload_n 0, 1) := by decide +kernel
theorem dX3_faultOf_45 : decode cX3_faultOf 45 = .ok (.getfield 47, 3) := by decide +kernel
theorem dX3_faultOf_48 : decode cX3_faultOf 48 = .ok (.iload_n 3, 1) := by decide +kernel
theorem dX3_faultOf_49 : decode cX3_faultOf 49 = .ok (.if_icmp .gt 6, 3) := by decide +kernel
theorem dX3_faultOf_52 : decode cX3_faultOf 52 = .ok (.bipush 6, 2) := by decide +kernel
theorem dX3_faultOf_54 : decode cX3_faultOf 54 = .ok (.ireturn, 1) := by decide +kernel
theorem dX3_faultOf_55 : decode cX3_faultOf 55 = .ok (.iload 4, 2) := by decide +kernel
theorem dX3_faultOf_57 : decode cX3_faultOf 57 = .ok (.aload_n 1, 1) := by decide +kernel
theorem dX3_faultOf_58 : decode cX3_faultOf 58 = .ok (.invokestatic 79, 3) := by decide +kernel
theorem dX3_faultOf_61 : decode cX3_faultOf 61 = .ok (.iand, 1) := by decide +kernel
theorem dX3_faultOf_62 : decode cX3_faultOf 62 = .ok (.ifCond .eq 8, 3) := by decide +kernel
theorem dX3_faultOf_65 : decode cX3_faultOf 65 = .ok (.bipush 7, 2) := by decide +kernel
theorem dX3_faultOf_67 : decode cX3_faultOf 67 = .ok (.goto 4, 3) := by decide +kernel
theorem dX3_faultOf_7 : decode cX3_faultOf 7 = .ok (.aload_n 0, 1) := by decide +kernel
theorem dX3_faultOf_70 : decode cX3_faultOf 70 = .ok (.iconst 0, 1) := by decide +kernel
theorem dX3_faultOf_71 : decode cX3_faultOf 71 = .ok (.ireturn, 1) := by decide +kernel
theorem dX3_faultOf_8 : decode cX3_faultOf 8 = .ok (.getfield 83, 3) := by decide +kernel
theorem dX3_find_0 : decode cX3_find 0 = .ok (.aload_n 0, 1) := by decide +kernel
theorem dX3_find_1 : decode cX3_find 1 = .ok (.getfield 17, 3) := by decide +kernel
theorem dX3_find_10 : decode cX3_find 10 = .ok (.iconst 0, 1) := by decide +kernel
theorem dX3_find_11 : decode cX3_find 11 = .ok (.istore 5, 2) := by decide +kernel
theorem dX3_find_13 : decode cX3_find 13 = .ok (.iload 5, 2) := by decide +kernel
theorem dX3_find_15 : decode cX3_find 15 = .ok (.bipush 120, 2) := by decide +kernel
theorem dX3_find_17 : decode cX3_find 17 = .ok (.if_icmp .ge 45, 3) := by decide +kernel
theorem dX3_find_20 : decode cX3_find 20 = .ok (.iload 4, 2) := by decide +kernel
theorem dX3_find_22 : decode cX3_find 22 = .ok (.aload_n 1, 1) := by decide +kernel
theorem dX3_find_23 : decode cX3_find 23 = .ok (.invokevirtual 29, 3) := by decide +kernel
theorem dX3_find_26 : decode cX3_find 26 = .ok (.if_icmp .ge 36, 3) := by decide +kernel
theorem dX3_find_29 : decode cX3_find 29 = .ok (.aload_n 3, 1) := by decide +kernel
theorem dX3_find_30 : decode cX3_find 30 = .ok (.aload_n 1, 1) := by decide +kernel
theorem dX3_find_31 : decode cX3_find 31 = .ok (.iload 4, 2) := by decide +kernel
theorem dX3_find_33 : decode cX3_find 33 = .ok (.aload_n 1, 1) := by decide +kernel
theorem dX3_find_34 : decode cX3_find 34 = .ok (.invokevirtual 29, 3) := by decide +kernel
theorem dX3_find_37 : decode cX3_find 37 = .ok (.invokevirtual 43, 3) := by decide +kernel
theorem dX3_find_4 : decode cX3_find 4 = .ok (.iconst 0, 1) := by decide +kernel
theorem dX3_find_40 : decode cX3_find 40 = .ok (.aload_n 3, 1) := by decide +kernel
theorem dX3_find_41 : decode cX3_find 41 = .ok (.getfield 47, 3) := by decide +kernel
theorem dX3_find_44 : decode cX3_find 44 = .ok (.iload_n 2, 1) := by decide +kernel
theorem dX3_find_45 : decode cX3_find 45 = .ok (.if_icmp .ne 5, 3) := by decide +kernel
theorem dX3_find_48 : decode cX3_find 48 = .ok (.aload_n 3, 1) := by decide +kernel
theorem dX3_find_49 : decode cX3_find 49 = .ok (.areturn, 1) := by decide +kernel
theorem dX3_find_5 : decode cX3_find 5 = .ok (.aaload, 1) := by decide +kernel
theorem dX3_find_50 : decode cX3_find 50 = .ok (.aload_n 3, 1) := by decide +kernel
theorem dX3_find_51 : decode cX3_find 51 = .ok (.getfield 67, 3) := by decide +kernel
theorem dX3_find_54 : decode cX3_find 54 = .ok (.istore 4, 2) := by decide +kernel
theorem dX3_find_56 : decode cX3_find 56 = .ok (.iinc 5 1, 3) := by decide +kernel
theorem dX3_find_59 : decode cX3_find 59 = .ok (.goto (-46), 3) := by decide +kernel
theorem dX3_find_6 : decode cX3_find 6 = .ok (.astore_n 3, 1) := by decide +kernel
theorem dX3_find_62 : decode cX3_find 62 = .ok (.aconst_null, 1) := by decide +kernel
theorem dX3_find_63 : decode cX3_find 63 = .ok (.areturn, 1) := by decide +kernel
theorem dX3_find_7 : decode cX3_find 7 = .ok (.iconst 0, 1) := by decide +kernel
theorem dX3_find_8 : decode cX3_find 8 = .ok (.istore 4, 2) := by decide +kernel
theorem dX3_fits_0 : decode cX3_fits 0 = .ok (.aload_n 1, 1) := by decide +kernel
theorem dX3_fits_1 : decode cX3_fits 1 = .ok (.invokevirtual 96, 3) := by decide +kernel
theorem dX3_fits_12 : decode cX3_fits 12 = .ok (.invokevirtual 103, 3) := by decide +kernel
theorem dX3_fits_15 : decode cX3_fits 15 = .ok (.ireturn, 1) := by decide +kernel
theorem dX3_fits_16 : decode cX3_fits 16 = .ok (.aload_n 1, 1) := by decide +kernel
theorem dX3_fits_17 : decode cX3_fits 17 = .ok (.getfield 107, 3) := by decide +kernel
theorem dX3_fits_20 : decode cX3_fits 20 = .ok (.iconst 5, 1) := by decide +kernel
theorem dX3_fits_21 : decode cX3_fits 21 = .ok (.if_icmp .ne 18, 3) := by decide +kernel
theorem dX3_fits_24 : decode cX3_fits 24 = .ok (.aload_n 2, 1) := by decide +kernel
theorem dX3_fits_25 : decode cX3_fits 25 = .ok (.aload_n 0, 1) := by decide +kernel
theorem dX3_fits_26 : decode cX3_fits 26 = .ok (.getfield 64, 3) := by decide +kernel
theorem dX3_fits_29 : decode cX3_fits 29 = .ok (.aload_n 0, 1) := by decide +kernel
theorem dX3_fits_30 : decode cX3_fits 30 = .ok (.getfield 67, 3) := by decide +kernel
theorem dX3_fits_33 : decode cX3_fits 33 = .ok (.invokevirtual 110, 3) := by decide +kernel
theorem dX3_fits_36 : decode cX3_fits 36 = .ok (.ifCond .eq 7, 3) := by decide +kernel
theorem dX3_fits_39 : decode cX3_fits 39 = .ok (.iconst 1, 1) := by decide +kernel
theorem dX3_fits_4 : decode cX3_fits 4 = .ok (.ifCond .eq 12, 3) := by decide +kernel
theorem dX3_fits_40 : decode cX3_fits 40 = .ok (.goto 4, 3) := by decide +kernel
theorem dX3_fits_43 : decode cX3_fits 43 = .ok (.iconst 0, 1) := by decide +kernel
theorem dX3_fits_44 : decode cX3_fits 44 = .ok (.ireturn, 1) := by decide +kernel
theorem dX3_fits_7 : decode cX3_fits 7 = .ok (.aload_n 1, 1) := by decide +kernel
theorem dX3_fits_8 : decode cX3_fits 8 = .ok (.aload_n 0, 1) := by decide +kernel
theorem dX3_fits_9 : decode cX3_fits 9 = .ok (.invokevirtual 99, 3) := by decide +kernel
theorem dX3_groupBit_0 : decode cX3_groupBit 0 = .ok (.aload_n 0, 1) := by decide +kernel
theorem dX3_groupBit_1 : decode cX3_groupBit 1 = .ok (.ifnull 10, 3) := by decide +kernel
theorem dX3_groupBit_11 : decode cX3_groupBit 11 = .ok (.iconst 0, 1) := by decide +kernel
theorem dX3_groupBit_12 : decode cX3_groupBit 12 = .ok (.goto 9, 3) := by decide +kernel
theorem dX3_groupBit_15 : decode cX3_groupBit 15 = .ok (.iconst 1, 1) := by decide +kernel
theorem dX3_groupBit_16 : decode cX3_groupBit 16 = .ok (.aload_n 0, 1) := by decide +kernel
theorem dX3_groupBit_17 : decode cX3_groupBit 17 = .ok (.getfield 113, 3) := by decide +kernel
theorem dX3_groupBit_20 : decode cX3_groupBit 20 = .ok (.ishl, 1) := by decide +kernel
theorem dX3_groupBit_21 : decode cX3_groupBit 21 = .ok (.ireturn, 1) := by decide +kernel
theorem dX3_groupBit_4 : decode cX3_groupBit 4 = .ok (.aload_n 0, 1) := by decide +kernel
theorem dX3_groupBit_5 : decode cX3_groupBit 5 = .ok (.getfield 113, 3) := by decide +kernel
theorem dX3_groupBit_8 : decode cX3_groupBit 8 = .ok (.ifCond .ne 7, 3) := by decide +kernel
theorem dX3_isRec_0 : decode cX3_isRec 0 = .ok (.aload_n 0, 1) := by decide +kernel
theorem dX3_isRec_1 : decode cX3_isRec 1 = .ok (.ifnull 16, 3) := by decide +kernel
theorem dX3_isRec_10 : decode cX3_isRec 10 = .ok (.if_icmp .ne 7, 3) := by decide +kernel
theorem dX3_isRec_13 : decode cX3_isRec 13 = .ok (.iconst 1, 1) := by decide +kernel
theorem dX3_isRec_14 : decode cX3_isRec 14 = .ok (.goto 4, 3) := by decide +kernel
theorem dX3_isRec_17 : decode cX3_isRec 17 = .ok (.iconst 0, 1) := by decide +kernel
theorem dX3_isRec_18 : decode cX3_isRec 18 = .ok (.ireturn, 1) := by decide +kernel
theorem dX3_isRec_4 : decode cX3_isRec 4 = .ok (.aload_n 0, 1) := by decide +kernel
theorem dX3_isRec_5 : decode cX3_isRec 5 = .ok (.getfield 107, 3) := by decide +kernel
theorem dX3_isRec_8 : decode cX3_isRec 8 = .ok (.bipush 6, 2) := by decide +kernel
theorem dX3_isSound_0 : decode cX3_isSound 0 = .ok (.aload_n 0, 1) := by decide +kernel
theorem dX3_isSound_1 : decode cX3_isSound 1 = .ok (.iconst 0, 1) := by decide +kernel
theorem dX3_isSound_10 : decode cX3_isSound 10 = .ok (.aload_n 0, 1) := by decide +kernel
theorem dX3_isSound_11 : decode cX3_isSound 11 = .ok (.aload_n 1, 1) := by decide +kernel
theorem dX3_isSound_12 : decode cX3_isSound 12 = .ok (.iconst 0, 1) := by decide +kernel
theorem dX3_isSound_13 : decode cX3_isSound 13 = .ok (.aload_n 1, 1) := by decide +kernel
theorem dX3_isSound_14 : decode cX3_isSound 14 = .ok (.invokevirtual 29, 3) := by decide +kernel
theorem dX3_isSound_17 : decode cX3_isSound 17 = .ok (.aload_n 2, 1) := by decide +kernel
theorem dX3_isSound_18 : decode cX3_isSound 18 = .ok (.iconst 0, 1) := by decide +kernel
theorem dX3_isSound_19 : decode cX3_isSound 19 = .ok (.invokevirtual 35, 3) := by decide +kernel
theorem dX3_isSound_2 : decode cX3_isSound 2 = .ok (.putfield 22, 3) := by decide +kernel
theorem dX3_isSound_22 : decode cX3_isSound 22 = .ok (.ireturn, 1) := by decide +kernel
theorem dX3_isSound_5 : decode cX3_isSound 5 = .ok (.aload_n 0, 1) := by decide +kernel
theorem dX3_isSound_6 : decode cX3_isSound 6 = .ok (.iconst (-1), 1) := by decide +kernel
theorem dX3_isSound_7 : decode cX3_isSound 7 = .ok (.putfield 26, 3) := by decide +kernel
theorem dX3_placeFound_0 : decode cX3_placeFound 0 = .ok (.aload_n 0, 1) := by decide +kernel
theorem dX3_placeFound_1 : decode cX3_placeFound 1 = .ok (.getfield 26, 3) := by decide +kernel
theorem dX3_placeFound_4 : decode cX3_placeFound 4 = .ok (.ireturn, 1) := by decide +kernel
theorem dX3_refuse_0 : decode cX3_refuse 0 = .ok (.aload_n 0, 1) := by decide +kernel
theorem dX3_refuse_1 : decode cX3_refuse 1 = .ok (.iload_n 1, 1) := by decide +kernel
theorem dX3_refuse_10 : decode cX3_refuse 10 = .ok (.iconst 0, 1) := by decide +kernel
theorem dX3_refuse_11 : decode cX3_refuse 11 = .ok (.ireturn, 1) := by decide +kernel
theorem dX3_refuse_2 : decode cX3_refuse 2 = .ok (.putfield 22, 3) := by decide +kernel
theorem dX3_refuse_5 : decode cX3_refuse 5 = .ok (.aload_n 0, 1) := by decide +kernel
theorem dX3_refuse_6 : decode cX3_refuse 6 = .ok (.iload_n 2, 1) := by decide +kernel
theorem dX3_refuse_7 : decode cX3_refuse 7 = .ok (.putfield 26, 3) := by decide +kernel
theorem dX3_scan_0 : decode cX3_scan 0 = .ok (.aload 4, 2) := by decide +kernel
theorem dX3_scan_10 : decode cX3_scan 10 = .ok (.iload 5, 2) := by decide +kernel
theorem dX3_scan_101 : decode cX3_scan 101 = .ok (.aload_n 0, 1) := by decide +kernel
theorem dX3_scan_102 : decode cX3_scan 102 = .ok (.iload 12, 2) := by decide +kernel
theorem dX3_scan_104 : decode cX3_scan 104 = .ok (.iload 9, 2) := by decide +kernel
theorem dX3_scan_106 : decode cX3_scan 106 = .ok (.invokevirtual 39, 3) := by decide +kernel
theorem dX3_scan_109 : decode cX3_scan 109 = .ok (.ireturn, 1) := by decide +kernel
theorem dX3_scan_110 : decode cX3_scan 110 = .ok (.aload 11, 2) := by decide +kernel
theorem dX3_scan_112 : decode cX3_scan 112 = .ok (.invokestatic 60, 3) := by decide +kernel
theorem dX3_scan_115 : decode cX3_scan 115 = .ok (.ifCond .eq 39, 3) := by decide +kernel
theorem dX3_scan_118 : decode cX3_scan 118 = .ok (.aload_n 0, 1) := by decide +kernel
theorem dX3_scan_119 : decode cX3_scan 119 = .ok (.aload_n 1, 1) := by decide +kernel
theorem dX3_scan_12 : decode cX3_scan 12 = .ok (.aload_n 0, 1) := by decide +kernel
theorem dX3_scan_120 : decode cX3_scan 120 = .ok (.aload 6, 2) := by decide +kernel
theorem dX3_scan_122 : decode cX3_scan 122 = .ok (.getfield 64, 3) := by decide +kernel
theorem dX3_scan_125 : decode cX3_scan 125 = .ok (.aload 6, 2) := by decide +kernel
theorem dX3_scan_127 : decode cX3_scan 127 = .ok (.getfield 67, 3) := by decide +kernel
theorem dX3_scan_13 : decode cX3_scan 13 = .ok (.getfield 17, 3) := by decide +kernel
theorem dX3_scan_130 : decode cX3_scan 130 = .ok (.aload_n 0, 1) := by decide +kernel
theorem dX3_scan_131 : decode cX3_scan 131 = .ok (.getfield 9, 3) := by decide +kernel
theorem dX3_scan_134 : decode cX3_scan 134 = .ok (.aload 11, 2) := by decide +kernel
theorem dX3_scan_136 : decode cX3_scan 136 = .ok (.getfield 70, 3) := by decide +kernel
theorem dX3_scan_139 : decode cX3_scan 139 = .ok (.invokestatic 75, 3) := by decide +kernel
theorem dX3_scan_142 : decode cX3_scan 142 = .ok (.iload 5, 2) := by decide +kernel
theorem dX3_scan_144 : decode cX3_scan 144 = .ok (.iconst 1, 1) := by decide +kernel
theorem dX3_scan_145 : decode cX3_scan 145 = .ok (.iadd, 1) := by decide +kernel
theorem dX3_scan_146 : decode cX3_scan 146 = .ok (.invokevirtual 35, 3) := by decide +kernel
theorem dX3_scan_149 : decode cX3_scan 149 = .ok (.ifCond .ne 5, 3) := by decide +kernel
theorem dX3_scan_152 : decode cX3_scan 152 = .ok (.iconst 0, 1) := by decide +kernel
theorem dX3_scan_153 : decode cX3_scan 153 = .ok (.ireturn, 1) := by decide +kernel
theorem dX3_scan_154 : decode cX3_scan 154 = .ok (.iload 8, 2) := by decide +kernel
theorem dX3_scan_156 : decode cX3_scan 156 = .ok (.aload 11, 2) := by decide +kernel
theorem dX3_scan_158 : decode cX3_scan 158 = .ok (.invokestatic 79, 3) := by decide +kernel
theorem dX3_scan_16 : decode cX3_scan 16 = .ok (.arraylength, 1) := by decide +kernel
theorem dX3_scan_161 : decode cX3_scan 161 = .ok (.ior, 1) := by decide +kernel
theorem dX3_scan_162 : decode cX3_scan 162 = .ok (.istore 8, 2) := by decide +kernel
theorem dX3_scan_164 : decode cX3_scan 164 = .ok (.aload 6, 2) := by decide +kernel
theorem dX3_scan_166 : decode cX3_scan 166 = .ok (.getfield 47, 3) := by decide +kernel
theorem dX3_scan_169 : decode cX3_scan 169 = .ok (.istore 7, 2) := by decide +kernel
theorem dX3_scan_17 : decode cX3_scan 17 = .ok (.if_icmp .lt 10, 3) := by decide +kernel
theorem dX3_scan_171 : decode cX3_scan 171 = .ok (.aload 6, 2) := by decide +kernel
theorem dX3_scan_173 : decode cX3_scan 173 = .ok (.getfield 67, 3) := by decide +kernel
theorem dX3_scan_176 : decode cX3_scan 176 = .ok (.istore 9, 2) := by decide +kernel
theorem dX3_scan_178 : decode cX3_scan 178 = .ok (.iinc 10 1, 3) := by decide +kernel
theorem dX3_scan_181 : decode cX3_scan 181 = .ok (.goto (-133), 3) := by decide +kernel
theorem dX3_scan_184 : decode cX3_scan 184 = .ok (.iconst 1, 1) := by decide +kernel
theorem dX3_scan_185 : decode cX3_scan 185 = .ok (.ireturn, 1) := by decide +kernel
theorem dX3_scan_2 : decode cX3_scan 2 = .ok (.ifnull 18, 3) := by decide +kernel
theorem dX3_scan_20 : decode cX3_scan 20 = .ok (.aload_n 0, 1) := by decide +kernel
theorem dX3_scan_21 : decode cX3_scan 21 = .ok (.iconst 5, 1) := by decide +kernel
theorem dX3_scan_22 : decode cX3_scan 22 = .ok (.iload_n 2, 1) := by decide +kernel
theorem dX3_scan_23 : decode cX3_scan 23 = .ok (.invokevirtual 39, 3) := by decide +kernel
theorem dX3_scan_26 : decode cX3_scan 26 = .ok (.ireturn, 1) := by decide +kernel
theorem dX3_scan_27 : decode cX3_scan 27 = .ok (.aload_n 0, 1) := by decide +kernel
theorem dX3_scan_28 : decode cX3_scan 28 = .ok (.getfield 17, 3) := by decide +kernel
theorem dX3_scan_31 : decode cX3_scan 31 = .ok (.iload 5, 2) := by decide +kernel
theorem dX3_scan_33 : decode cX3_scan 33 = .ok (.aaload, 1) := by decide +kernel
theorem dX3_scan_34 : decode cX3_scan 34 = .ok (.astore 6, 2) := by decide +kernel
theorem dX3_scan_36 : decode cX3_scan 36 = .ok (.iconst 0, 1) := by decide +kernel
theorem dX3_scan_37 : decode cX3_scan 37 = .ok (.istore 7, 2) := by decide +kernel
theorem dX3_scan_39 : decode cX3_scan 39 = .ok (.iconst 0, 1) := by decide +kernel
theorem dX3_scan_40 : decode cX3_scan 40 = .ok (.istore 8, 2) := by decide +kernel
theorem dX3_scan_42 : decode cX3_scan 42 = .ok (.iload_n 2, 1) := by decide +kernel
theorem dX3_scan_43 : decode cX3_scan 43 = .ok (.istore 9, 2) := by decide +kernel
theorem dX3_scan_45 : decode cX3_scan 45 = .ok (.iconst 0, 1) := by decide +kernel
theorem dX3_scan_46 : decode cX3_scan 46 = .ok (.istore 10, 2) := by decide +kernel
theorem dX3_scan_48 : decode cX3_scan 48 = .ok (.iload 10, 2) := by decide +kernel
theorem dX3_scan_5 : decode cX3_scan 5 = .ok (.iload 5, 2) := by decide +kernel
theorem dX3_scan_50 : decode cX3_scan 50 = .ok (.bipush 120, 2) := by decide +kernel
theorem dX3_scan_52 : decode cX3_scan 52 = .ok (.if_icmp .ge 132, 3) := by decide +kernel
theorem dX3_scan_55 : decode cX3_scan 55 = .ok (.iload 9, 2) := by decide +kernel
theorem dX3_scan_57 : decode cX3_scan 57 = .ok (.iload_n 3, 1) := by decide +kernel
theorem dX3_scan_58 : decode cX3_scan 58 = .ok (.if_icmp .ge 126, 3) := by decide +kernel
theorem dX3_scan_61 : decode cX3_scan 61 = .ok (.aload 6, 2) := by decide +kernel
theorem dX3_scan_63 : decode cX3_scan 63 = .ok (.aload_n 1, 1) := by decide +kernel
theorem dX3_scan_64 : decode cX3_scan 64 = .ok (.iload 9, 2) := by decide +kernel
theorem dX3_scan_66 : decode cX3_scan 66 = .ok (.iload_n 3, 1) := by decide +kernel
theorem dX3_scan_67 : decode cX3_scan 67 = .ok (.invokevirtual 43, 3) := by decide +kernel
theorem dX3_scan_7 : decode cX3_scan 7 = .ok (.ifCond .lt 13, 3) := by decide +kernel
theorem dX3_scan_70 : decode cX3_scan 70 = .ok (.aload 4, 2) := by decide +kernel
theorem dX3_scan_72 : decode cX3_scan 72 = .ok (.aload 6, 2) := by decide +kernel
theorem dX3_scan_74 : decode cX3_scan 74 = .ok (.getfield 47, 3) := by decide +kernel
theorem dX3_scan_77 : decode cX3_scan 77 = .ok (.invokevirtual 50, 3) := by decide +kernel
theorem dX3_scan_80 : decode cX3_scan 80 = .ok (.astore 11, 2) := by decide +kernel
theorem dX3_scan_82 : decode cX3_scan 82 = .ok (.aload 6, 2) := by decide +kernel
theorem dX3_scan_84 : decode cX3_scan 84 = .ok (.aload 11, 2) := by decide +kernel
theorem dX3_scan_86 : decode cX3_scan 86 = .ok (.aload_n 1, 1) := by decide +kernel
theorem dX3_scan_87 : decode cX3_scan 87 = .ok (.iload 7, 2) := by decide +kernel
theorem dX3_scan_89 : decode cX3_scan 89 = .ok (.iload 8, 2) := by decide +kernel
theorem dX3_scan_91 : decode cX3_scan 91 = .ok (.invokestatic 56, 3) := by decide +kernel
theorem dX3_scan_94 : decode cX3_scan 94 = .ok (.istore 12, 2) := by decide +kernel
theorem dX3_scan_96 : decode cX3_scan 96 = .ok (.iload 12, 2) := by decide +kernel
theorem dX3_scan_98 : decode cX3_scan 98 = .ok (.ifCond .eq 12, 3) := by decide +kernel
theorem dX8_makeOf_0 : decode cX8_makeOf 0 = .ok (.iload_n 1, 1) := by decide +kernel
theorem dX8_makeOf_1 : decode cX8_makeOf 1 = .ok (.ifCond .lt 15, 3) := by decide +kernel
theorem dX8_makeOf_10 : decode cX8_makeOf 10 = .ok (.aload_n 0, 1) := by decide +kernel
theorem dX8_makeOf_11 : decode cX8_makeOf 11 = .ok (.iload_n 1, 1) := by decide +kernel
theorem dX8_makeOf_12 : decode cX8_makeOf 12 = .ok (.aaload, 1) := by decide +kernel
theorem dX8_makeOf_13 : decode cX8_makeOf 13 = .ok (.goto 4, 3) := by decide +kernel
theorem dX8_makeOf_16 : decode cX8_makeOf 16 = .ok (.aconst_null, 1) := by decide +kernel
theorem dX8_makeOf_17 : decode cX8_makeOf 17 = .ok (.areturn, 1) := by decide +kernel
theorem dX8_makeOf_4 : decode cX8_makeOf 4 = .ok (.iload_n 1, 1) := by decide +kernel
theorem dX8_makeOf_5 : decode cX8_makeOf 5 = .ok (.aload_n 0, 1) := by decide +kernel
theorem dX8_makeOf_6 : decode cX8_makeOf 6 = .ok (.arraylength, 1) := by decide +kernel
theorem dX8_makeOf_7 : decode cX8_makeOf 7 = .ok (.if_icmp .ge 9, 3) := by decide +kernel
noncomputable def fX8_makeOf (p0 : Option Nat) (p1 : Int32) (st : CS) : Option (Option Nat × CS) := pif (p1 < 0) (some (none, st)) (ono p0 (fun a_2 => gd (qk st a_2 = 24) (pif ((nI (ql st a_2)) ≤ p1) (some (none, st)) (gd (vp_in p1 (ql st a_2)) (some (qP st a_2 p1.toNatClampNeg, st))))))
set_option maxHeartbeats 1000000 in
theorem mo_X8_makeOf (p0 : Option Nat) (p1 : Int32) (st : CS) (r : Option Nat) (st' : CS) (hf : fX8_makeOf p0 p1 st = some (r, st')) : Ke st st' := by
  unfold fX8_makeOf at hf
  have hm : Ke st st := Ke.rf
  rcases pif_or hf with ⟨c_1, hf⟩ | ⟨c_1, hf⟩
  · obtain ⟨e1, e2⟩ := pr_some hf
    exact e2 ▸ hm
  · obtain ⟨a_2, ha_3, hf⟩ := ono_some hf
    obtain ⟨hk_4, hf⟩ := gd_some hf
    rcases pif_or hf with ⟨c_5, hf⟩ | ⟨c_5, hf⟩
    · obtain ⟨e1, e2⟩ := pr_some hf
      exact e2 ▸ hm
    · obtain ⟨g_6, hf⟩ := gd_some hf
      obtain ⟨e1, e2⟩ := pr_some hf
      exact e2 ▸ hm
def wq_X8_makeOf : List Cond := .code yX8_makeOf cX8_makeOf 2 (some (.object "RecordBench$Make")) :: ([])
set_option maxHeartbeats 4000000 in
set_option maxRecDepth 100000 in
theorem c_X8_makeOf (l : Launch) (dC : Nat → ClassId) (dI : Nat → Nat → Nat) (ka ad : Nat → Nat) (ct : Nat → ClassId) (p0 : Option Nat) (p1 : Int32) (st st' : CS) (r : Option Nat) (hf : fX8_makeOf p0 p1 st = some (r, st')) (sz : Nat) : Met l yX8_makeOf wq_X8_makeOf ({ frames := 0, cells := 0, slots := 0, locals := 0 }) (va_Pc [va_rf (Option.map ad p0), .int p1] (PrC (dC, dI) ct ka ad st sz)) (va_Qq (fun r' (_ : Unit) => r' = Option.map ad r) (fun _ => CB (dC, dI) ct ka ad st' (aC ad st sz)) (aC ad st sz)) 0 0 (aC ad st sz) := by
  refine Met.ofW (cc := cX8_makeOf) (maxL := 2) (ret := (some (.object "RecordBench$Make"))) (by decide) rfl ?_
  intro p e s m args below meth c s₁ B hml hv
  obtain ⟨rfl, hsz, hw0, hK, hN, hZ, hC, hR, hL, hw1, hw2⟩ := hv
  have hx := B.exec
  have hb := B.bytes
  have hr := B.returns
  have hts := atoms_spec (ws := wq_X8_makeOf) B.pre
  have hown : s.vm.findClass RX8 = some m.cls := findClass_of_methodNamed B.named
  subst hsz
  have hp : Cp (dC, dI) ka ad ct (aC ad st s.heap.size) s.heap st s.heap [] := ⟨fun i a b => ⟨hw0 i a b, Or.inl ⟨i, a, b, rfl⟩⟩, va_S.rf, hw1, hw2⟩
  generalize hAe : aC ad st s.heap.size = A at hp hZ hC ⊢
  have hA : ∀ q : Nat, s.heap.size ≤ q → A q := fun q h => by rw [← hAe]; exact Or.inr h
  have hl := lv_entry ([va_rf (Option.map ad p0), .int p1]) (n := 2) (by simp [lg_sl, rf_cat, vc_i, vc_l, vc_r, vc_n])
  rw [lg_entry_eq]
  generalize (lg_sl ([va_rf (Option.map ad p0), .int p1]) ++ List.replicate (2 - (lg_sl ([va_rf (Option.map ad p0), .int p1])).length) Slot.unset).toArray = ls at hl ⊢
  have hl : lv_has ls 2 [(0, va_rf (Option.map ad p0)), (1, .int p1)] := by simpa [lv_args, rf_cat, vc_i, vc_l, vc_r, vc_n] using hl
  unfold fX8_makeOf at hf
  refine lv_iload_n hx hb dX8_makeOf_0 rfl (lv_at hl 1 rfl) ?_
  refine lv_if_lt (tgt := 16) hx hb dX8_makeOf_1 (by decide) (fun c_1 => ?_) (fun c_1 => ?_)
  · have hf := pif_t c_1 hf
    refine lv_null hx hb dX8_makeOf_16 ?_
    obtain ⟨e1, e2⟩ := pr_some hf
    exact W.aret (v := va_rf (Option.map ad none)) hx hb hr (Or.inl ⟨_, rfl⟩) (rf_or _) (fun t ht hW => ⟨⟨Option.map ad none, (), rfl, by rw [e1], Cp.end e2 hp ht⟩, hp.2.1.F ht⟩) hp.2.1.2.2 dX8_makeOf_17
  · have hf := pif_f c_1 hf
    refine lv_iload_n hx hb dX8_makeOf_4 rfl (lv_at hl 1 rfl) ?_
    refine o_aload_n hx hb dX8_makeOf_5 rfl (lv_at hl 0 rfl) ?_
    obtain ⟨a_2, ha_3, hf⟩ := ono_some hf
    refine o_at ha_3 ?_
    obtain ⟨hk_4, hf⟩ := gd_some hf
    refine q_len (t0 := 3) hx hb hK hp (hp.2.2.1.ge hk_4 (by decide) (by decide) (by decide)) hk_4 (by decide) rfl dX8_makeOf_6 ?_
    refine lv_icmp_ge (tgt := 16) hx hb dX8_makeOf_7 (by decide) (fun c_5 => ?_) (fun c_5 => ?_)
    · have hf := pif_t c_5 hf
      refine lv_null hx hb dX8_makeOf_16 ?_
      obtain ⟨e1, e2⟩ := pr_some hf
      exact W.aret (v := va_rf (Option.map ad none)) hx hb hr (Or.inl ⟨_, rfl⟩) (rf_or _) (fun t ht hW => ⟨⟨Option.map ad none, (), rfl, by rw [e1], Cp.end e2 hp ht⟩, hp.2.1.F ht⟩) hp.2.1.2.2 dX8_makeOf_17
    · have hf := pif_f c_5 hf
      refine o_aload_n hx hb dX8_makeOf_10 rfl (lv_at hl 0 rfl) ?_
      refine lv_iload_n hx hb dX8_makeOf_11 rfl (lv_at hl 1 rfl) ?_
      refine o_at1 ha_3 ?_
      obtain ⟨g_6, hf⟩ := gd_some hf
      refine q_aq (t0 := 3) hx hb hK hp hk_4 (by decide) rfl g_6 dX8_makeOf_12 ?_
      refine lv_goto (tgt := 17) hx hb dX8_makeOf_13 (by decide) ?_
      obtain ⟨e1, e2⟩ := pr_some hf
      exact W.aret (v := va_rf (Option.map ad (qP st a_2 p1.toNatClampNeg))) hx hb hr (Or.inl ⟨_, rfl⟩) (rf_or _) (fun t ht hW => ⟨⟨Option.map ad (qP st a_2 p1.toNatClampNeg), (), rfl, by rw [e1], Cp.end e2 hp ht⟩, hp.2.1.F ht⟩) hp.2.1.2.2 dX8_makeOf_17
noncomputable def fX3_faultFound (h0 : Nat) (st : CS) : Option (Int32 × CS) := gd (qk st h0 = 6) (some (qI st h0 2, st))
set_option maxHeartbeats 1000000 in
theorem mo_X3_faultFound (h0 : Nat) (st : CS) (r : Int32) (st' : CS) (hf : fX3_faultFound h0 st = some (r, st')) : Ke st st' := by
  unfold fX3_faultFound at hf
  have hm : Ke st st := Ke.rf
  obtain ⟨hk_1, hf⟩ := gd_some hf
  obtain ⟨e1, e2⟩ := pr_some hf
  exact e2 ▸ hm
def wq_X3_faultFound : List Cond := .code yX3_faultFound cX3_faultFound 1 (some .int) :: (([.fieldLink RX3 22 "RecordBench$RecordReader" "fault" "I"] : List Cond) ++ wsX30)
set_option maxHeartbeats 4000000 in
set_option maxRecDepth 100000 in
theorem c_X3_faultFound (l : Launch) (dC : Nat → ClassId) (dI : Nat → Nat → Nat) (ka ad : Nat → Nat) (ct : Nat → ClassId) (h0 : Nat) (st st' : CS) (r : Int32) (hf : fX3_faultFound h0 st = some (r, st')) (sz : Nat) : Met l yX3_faultFound wq_X3_faultFound ({ frames := 0, cells := 0, slots := 0, locals := 0 }) (va_Pc [.ref (ad h0)] (PrC (dC, dI) ct ka ad st sz)) (va_Qi (fun r' (_ : Unit) => r' = r) (fun _ => CB (dC, dI) ct ka ad st' (aC ad st sz)) (aC ad st sz)) 0 0 (aC ad st sz) := by
  refine Met.ofW (cc := cX3_faultFound) (maxL := 1) (ret := (some .int)) (by decide) rfl ?_
  intro p e s m args below meth c s₁ B hml hv
  obtain ⟨rfl, hsz, hw0, hK, hN, hZ, hC, hR, hL, hw1, hw2⟩ := hv
  have hx := B.exec
  have hb := B.bytes
  have hr := B.returns
  have hts := atoms_spec (ws := wq_X3_faultFound) B.pre
  have hown : s.vm.findClass RX3 = some m.cls := findClass_of_methodNamed B.named
  have iRX3 : ∀ w ∈ u_ws RX3 TX3 4, w ∈ wq_X3_faultFound := fun w h => List.mem_cons_of_mem _ (List.mem_append_right _ h)
  subst hsz
  have hp : Cp (dC, dI) ka ad ct (aC ad st s.heap.size) s.heap st s.heap [] := ⟨fun i a b => ⟨hw0 i a b, Or.inl ⟨i, a, b, rfl⟩⟩, va_S.rf, hw1, hw2⟩
  generalize hAe : aC ad st s.heap.size = A at hp hZ hC ⊢
  have hA : ∀ q : Nat, s.heap.size ≤ q → A q := fun q h => by rw [← hAe]; exact Or.inr h
  have hl := lv_entry ([.ref (ad h0)]) (n := 1) (Nat.le_of_ble_eq_true rfl)
  rw [lg_entry_eq]
  generalize (lg_sl ([.ref (ad h0)]) ++ List.replicate (1 - (lg_sl ([.ref (ad h0)])).length) Slot.unset).toArray = ls at hl ⊢
  have hl : lv_has ls 1 [(0, .ref (ad h0))] := hl
  unfold fX3_faultFound at hf
  refine lv_aload_n hx hb dX3_faultFound_0 rfl (lv_at hl 0 rfl) ?_
  obtain ⟨hk_1, hf⟩ := gd_some hf
  refine q_gi (ci := 5) (C := RX3) (T := TX3) (N := 4) (k := 2) hx hb hts iRX3 hown hK hp hk_1 (by decide) rfl rfl (by decide) rfl (Or.inl (hts (.fieldLink RX3 22 "RecordBench$RecordReader" "fault" "I") (by decide +kernel))) (fun _ h9 => h9) dX3_faultFound_1 ?_
  obtain ⟨e1, e2⟩ := pr_some hf
  exact W.iret (v := qI st h0 2) hx hb hr (fun t ht hW => ⟨⟨qI st h0 2, (), rfl, e1, Cp.end e2 hp ht⟩, hp.2.1.F ht⟩) hp.2.1.2.2 dX3_faultFound_4
noncomputable def fX3_placeFound (h0 : Nat) (st : CS) : Option (Int32 × CS) := gd (qk st h0 = 6) (some (qI st h0 3, st))
set_option maxHeartbeats 1000000 in
theorem mo_X3_placeFound (h0 : Nat) (st : CS) (r : Int32) (st' : CS) (hf : fX3_placeFound h0 st = some (r, st')) : Ke st st' := by
  unfold fX3_placeFound at hf
  have hm : Ke st st := Ke.rf
  obtain ⟨hk_1, hf⟩ := gd_some hf
  obtain ⟨e1, e2⟩ := pr_some hf
  exact e2 ▸ hm
def wq_X3_placeFound : List Cond := .code yX3_placeFound cX3_placeFound 1 (some .int) :: (([.fieldLink RX3 26 "RecordBench$RecordReader" "place" "I"] : List Cond) ++ wsX30)
set_option maxHeartbeats 4000000 in
set_option maxRecDepth 100000 in
theorem c_X3_placeFound (l : Launch) (dC : Nat → ClassId) (dI : Nat → Nat → Nat) (ka ad : Nat → Nat) (ct : Nat → ClassId) (h0 : Nat) (st st' : CS) (r : Int32) (hf : fX3_placeFound h0 st = some (r, st')) (sz : Nat) : Met l yX3_placeFound wq_X3_placeFound ({ frames := 0, cells := 0, slots := 0, locals := 0 }) (va_Pc [.ref (ad h0)] (PrC (dC, dI) ct ka ad st sz)) (va_Qi (fun r' (_ : Unit) => r' = r) (fun _ => CB (dC, dI) ct ka ad st' (aC ad st sz)) (aC ad st sz)) 0 0 (aC ad st sz) := by
  refine Met.ofW (cc := cX3_placeFound) (maxL := 1) (ret := (some .int)) (by decide) rfl ?_
  intro p e s m args below meth c s₁ B hml hv
  obtain ⟨rfl, hsz, hw0, hK, hN, hZ, hC, hR, hL, hw1, hw2⟩ := hv
  have hx := B.exec
  have hb := B.bytes
  have hr := B.returns
  have hts := atoms_spec (ws := wq_X3_placeFound) B.pre
  have hown : s.vm.findClass RX3 = some m.cls := findClass_of_methodNamed B.named
  have iRX3 : ∀ w ∈ u_ws RX3 TX3 4, w ∈ wq_X3_placeFound := fun w h => List.mem_cons_of_mem _ (List.mem_append_right _ h)
  subst hsz
  have hp : Cp (dC, dI) ka ad ct (aC ad st s.heap.size) s.heap st s.heap [] := ⟨fun i a b => ⟨hw0 i a b, Or.inl ⟨i, a, b, rfl⟩⟩, va_S.rf, hw1, hw2⟩
  generalize hAe : aC ad st s.heap.size = A at hp hZ hC ⊢
  have hA : ∀ q : Nat, s.heap.size ≤ q → A q := fun q h => by rw [← hAe]; exact Or.inr h
  have hl := lv_entry ([.ref (ad h0)]) (n := 1) (Nat.le_of_ble_eq_true rfl)
  rw [lg_entry_eq]
  generalize (lg_sl ([.ref (ad h0)]) ++ List.replicate (1 - (lg_sl ([.ref (ad h0)])).length) Slot.unset).toArray = ls at hl ⊢
  have hl : lv_has ls 1 [(0, .ref (ad h0))] := hl
  unfold fX3_placeFound at hf
  refine lv_aload_n hx hb dX3_placeFound_0 rfl (lv_at hl 0 rfl) ?_
  obtain ⟨hk_1, hf⟩ := gd_some hf
  refine q_gi (ci := 5) (C := RX3) (T := TX3) (N := 4) (k := 3) hx hb hts iRX3 hown hK hp hk_1 (by decide) rfl rfl (by decide) rfl (Or.inl (hts (.fieldLink RX3 26 "RecordBench$RecordReader" "place" "I") (by decide +kernel))) (fun _ h9 => h9) dX3_placeFound_1 ?_
  obtain ⟨e1, e2⟩ := pr_some hf
  exact W.iret (v := qI st h0 3) hx hb hr (fun t ht hW => ⟨⟨qI st h0 3, (), rfl, e1, Cp.end e2 hp ht⟩, hp.2.1.F ht⟩) hp.2.1.2.2 dX3_placeFound_4
noncomputable def fX3_refuse (h0 : Nat) (p0 : Int32) (p1 : Int32) (st : CS) : Option (Int32 × CS) := gd (qk st h0 = 6) (nam (wI st h0 2 p0) (fun st_2 => nam (wI st_2 h0 3 p1) (fun st_3 => some ((0 : Int32), st_3))))
set_option maxHeartbeats 1000000 in
theorem mo_X3_refuse (h0 : Nat) (p0 : Int32) (p1 : Int32) (st : CS) (r : Int32) (st' : CS) (hf : fX3_refuse h0 p0 p1 st = some (r, st')) : Ke st st' := by
  unfold fX3_refuse at hf
  have hm : Ke st st := Ke.rf
  obtain ⟨hk_1, hf⟩ := gd_some hf
  obtain ⟨st_2, est_2, hf⟩ := nam_some hf
  have hm := hm.wI est_2
  obtain ⟨st_3, est_3, hf⟩ := nam_some hf
  have hm := hm.wI est_3
  obtain ⟨e1, e2⟩ := pr_some hf
  exact e2 ▸ hm
def wq_X3_refuse : List Cond := .code yX3_refuse cX3_refuse 3 (some .boolean) :: (([.fieldLink RX3 22 "RecordBench$RecordReader" "fault" "I", .fieldLink RX3 26 "RecordBench$RecordReader" "place" "I"] : List Cond) ++ wsX30)
set_option maxHeartbeats 4000000 in
set_option maxRecDepth 100000 in
theorem c_X3_refuse (l : Launch) (dC : Nat → ClassId) (dI : Nat → Nat → Nat) (ka ad : Nat → Nat) (ct : Nat → ClassId) (h0 : Nat) (p0 : Int32) (p1 : Int32) (st st' : CS) (r : Int32) (hf : fX3_refuse h0 p0 p1 st = some (r, st')) (sz : Nat) : Met l yX3_refuse wq_X3_refuse ({ frames := 0, cells := 0, slots := 0, locals := 0 }) (va_Pc [.ref (ad h0), .int p0, .int p1] (PrC (dC, dI) ct ka ad st sz)) (va_Qi (fun r' (_ : Unit) => r' = r) (fun _ => CB (dC, dI) ct ka ad st' (aC ad st sz)) (aC ad st sz)) 0 0 (aC ad st sz) := by
  refine Met.ofW (cc := cX3_refuse) (maxL := 3) (ret := (some .boolean)) (by decide) rfl ?_
  intro p e s m args below meth c s₁ B hml hv
  obtain ⟨rfl, hsz, hw0, hK, hN, hZ, hC, hR, hL, hw1, hw2⟩ := hv
  have hx := B.exec
  have hb := B.bytes
  have hr := B.returns
  have hts := atoms_spec (ws := wq_X3_refuse) B.pre
  have hown : s.vm.findClass RX3 = some m.cls := findClass_of_methodNamed B.named
  have iRX3 : ∀ w ∈ u_ws RX3 TX3 4, w ∈ wq_X3_refuse := fun w h => List.mem_cons_of_mem _ (List.mem_append_right _ h)
  subst hsz
  have hp : Cp (dC, dI) ka ad ct (aC ad st s.heap.size) s.heap st s.heap [] := ⟨fun i a b => ⟨hw0 i a b, Or.inl ⟨i, a, b, rfl⟩⟩, va_S.rf, hw1, hw2⟩
  generalize hAe : aC ad st s.heap.size = A at hp hZ hC ⊢
  have hA : ∀ q : Nat, s.heap.size ≤ q → A q := fun q h => by rw [← hAe]; exact Or.inr h
  have hl := lv_entry ([.ref (ad h0), .int p0, .int p1]) (n := 3) (Nat.le_of_ble_eq_true rfl)
  rw [lg_entry_eq]
  generalize (lg_sl ([.ref (ad h0), .int p0, .int p1]) ++ List.replicate (3 - (lg_sl ([.ref (ad h0), .int p0, .int p1])).length) Slot.unset).toArray = ls at hl ⊢
  have hl : lv_has ls 3 [(0, .ref (ad h0)), (1, .int p0), (2, .int p1)] := hl
  unfold fX3_refuse at hf
  refine lv_aload_n hx hb dX3_refuse_0 rfl (lv_at hl 0 rfl) ?_
  refine lv_iload_n hx hb dX3_refuse_1 rfl (lv_at hl 1 rfl) ?_
  obtain ⟨hk_1, hf⟩ := gd_some hf
  refine q_pi (ci := 5) (C := RX3) (T := TX3) (N := 4) (k := 2) (v := p0) (ty := .int) hx hb hts iRX3 tyX3 tyX3_ok nmX3 hown hK hp hk_1 (by decide) rfl rfl (by decide) rfl (Or.inl (hts (.fieldLink RX3 22 "RecordBench$RecordReader" "fault" "I") (by decide +kernel))) (fun _ h9 => h9) rfl (by decide +kernel) rfl rfl dX3_refuse_2 (fun H locs hp => ?_)
  obtain ⟨st_2, est_2, hf⟩ := nam_some hf
  rw [← est_2] at hp
  have hk_1 : qk st_2 h0 = 6 := by rw [est_2]; exact hk_1
  refine lv_aload_n hx hb dX3_refuse_5 rfl (lv_at hl 0 rfl) ?_
  refine lv_iload_n hx hb dX3_refuse_6 rfl (lv_at hl 2 rfl) ?_
  refine q_pi (ci := 5) (C := RX3) (T := TX3) (N := 4) (k := 3) (v := p1) (ty := .int) hx hb hts iRX3 tyX3 tyX3_ok nmX3 hown hK hp hk_1 (by decide) rfl rfl (by decide) rfl (Or.inl (hts (.fieldLink RX3 26 "RecordBench$RecordReader" "place" "I") (by decide +kernel))) (fun _ h9 => h9) rfl (by decide +kernel) rfl rfl dX3_refuse_7 (fun H locs hp => ?_)
  obtain ⟨st_3, est_3, hf⟩ := nam_some hf
  rw [← est_3] at hp
  have hk_1 : qk st_3 h0 = 6 := by rw [est_3]; exact hk_1
  refine lv_iconst (v := 0) hx hb dX3_refuse_10 (by decide) ?_
  obtain ⟨e1, e2⟩ := pr_some hf
  exact W.zret (v := 0) hx hb hr rfl (fun t ht hW => ⟨⟨0, (), rfl, e1, Cp.end e2 hp ht⟩, hp.2.1.F ht⟩) hp.2.1.2.2 dX3_refuse_11
noncomputable def fX3_isRec (p0 : Option Nat) (st : CS) : Option (Int32 × CS) := pif (p0 = none) (some ((0 : Int32), st)) (ono p0 (fun a_2 => gd (qk st a_2 = 3) (pif ((qI st a_2 1) = 6) (some ((1 : Int32), st)) (some ((0 : Int32), st)))))
set_option maxHeartbeats 1000000 in
theorem mo_X3_isRec (p0 : Option Nat) (st : CS) (r : Int32) (st' : CS) (hf : fX3_isRec p0 st = some (r, st')) : Ke st st' := by
  unfold fX3_isRec at hf
  have hm : Ke st st := Ke.rf
  rcases pif_or hf with ⟨c_1, hf⟩ | ⟨c_1, hf⟩
  · obtain ⟨e1, e2⟩ := pr_some hf
    exact e2 ▸ hm
  · obtain ⟨a_2, ha_3, hf⟩ := ono_some hf
    obtain ⟨hk_4, hf⟩ := gd_some hf
    rcases pif_or hf with ⟨c_5, hf⟩ | ⟨c_5, hf⟩
    · obtain ⟨e1, e2⟩ := pr_some hf
      exact e2 ▸ hm
    · obtain ⟨e1, e2⟩ := pr_some hf
      exact e2 ▸ hm
def wq_X3_isRec : List Cond := .code yX3_isRec cX3_isRec 1 (some .boolean) :: (([] : List Cond) ++ wsX00)
set_option maxHeartbeats 4000000 in
set_option maxRecDepth 100000 in
theorem c_X3_isRec (l : Launch) (dC : Nat → ClassId) (dI : Nat → Nat → Nat) (ka ad : Nat → Nat) (ct : Nat → ClassId) (p0 : Option Nat) (st st' : CS) (r : Int32) (hf : fX3_isRec p0 st = some (r, st')) (sz : Nat) : Met l yX3_isRec wq_X3_isRec ({ frames := 0, cells := 0, slots := 0, locals := 0 }) (va_Pc [va_rf (Option.map ad p0)] (PrC (dC, dI) ct ka ad st sz)) (va_Qi (fun r' (_ : Unit) => r' = r) (fun _ => CB (dC, dI) ct ka ad st' (aC ad st sz)) (aC ad st sz)) 0 0 (aC ad st sz) := by
  refine Met.ofW (cc := cX3_isRec) (maxL := 1) (ret := (some .boolean)) (by decide) rfl ?_
  intro p e s m args below meth c s₁ B hml hv
  obtain ⟨rfl, hsz, hw0, hK, hN, hZ, hC, hR, hL, hw1, hw2⟩ := hv
  have hx := B.exec
  have hb := B.bytes
  have hr := B.returns
  have hts := atoms_spec (ws := wq_X3_isRec) B.pre
  have hown : s.vm.findClass RX3 = some m.cls := findClass_of_methodNamed B.named
  have iRX0 : ∀ w ∈ u_ws RX0 TX0 7, w ∈ wq_X3_isRec := fun w h => List.mem_cons_of_mem _ (List.mem_append_right _ h)
  subst hsz
  have hp : Cp (dC, dI) ka ad ct (aC ad st s.heap.size) s.heap st s.heap [] := ⟨fun i a b => ⟨hw0 i a b, Or.inl ⟨i, a, b, rfl⟩⟩, va_S.rf, hw1, hw2⟩
  generalize hAe : aC ad st s.heap.size = A at hp hZ hC ⊢
  have hA : ∀ q : Nat, s.heap.size ≤ q → A q := fun q h => by rw [← hAe]; exact Or.inr h
  have hl := lv_entry ([va_rf (Option.map ad p0)]) (n := 1) (by simp [lg_sl, rf_cat, vc_i, vc_l, vc_r, vc_n])
  rw [lg_entry_eq]
  generalize (lg_sl ([va_rf (Option.map ad p0)]) ++ List.replicate (1 - (lg_sl ([va_rf (Option.map ad p0)])).length) Slot.unset).toArray = ls at hl ⊢
  have hl : lv_has ls 1 [(0, va_rf (Option.map ad p0))] := by simpa [lv_args, rf_cat, vc_i, vc_l, vc_r, vc_n] using hl
  unfold fX3_isRec at hf
  refine o_aload_n hx hb dX3_isRec_0 rfl (lv_at hl 0 rfl) ?_
  refine o_ifnull (tgt := 17) hx hb dX3_isRec_1 (by decide) (fun c_1 => ?_) (fun c_1 => ?_)
  · have hf := pif_t c_1 hf
    refine lv_iconst (v := 0) hx hb dX3_isRec_17 (by decide) ?_
    obtain ⟨e1, e2⟩ := pr_some hf
    exact W.zret (v := 0) hx hb hr rfl (fun t ht hW => ⟨⟨0, (), rfl, e1, Cp.end e2 hp ht⟩, hp.2.1.F ht⟩) hp.2.1.2.2 dX3_isRec_18
  · have hf := pif_f c_1 hf
    refine o_aload_n hx hb dX3_isRec_4 rfl (lv_at hl 0 rfl) ?_
    obtain ⟨a_2, ha_3, hf⟩ := ono_some hf
    refine o_at ha_3 ?_
    obtain ⟨hk_4, hf⟩ := gd_some hf
    refine q_gi (ci := 2) (C := RX0) (T := TX0) (N := 7) (k := 1) hx hb hts iRX0 hown hK hp hk_4 (by decide) rfl rfl (by decide) rfl (Or.inr ⟨_, va_Nw.use rfl (hN.1 (.fieldLinkNest RX3 107 "RecordBench$Field" "kind" "I" "RecordBench") (by decide +kernel))⟩) (fun _ h9 => h9) dX3_isRec_5 ?_
    refine lv_bipush (v := 6) hx hb dX3_isRec_8 (by decide) ?_
    refine lv_icmp_ne (tgt := 17) hx hb dX3_isRec_10 (by decide) (fun c_5 => ?_) (fun c_5 => ?_)
    · have hf := pif_f c_5 hf
      refine lv_iconst (v := 0) hx hb dX3_isRec_17 (by decide) ?_
      obtain ⟨e1, e2⟩ := pr_some hf
      exact W.zret (v := 0) hx hb hr rfl (fun t ht hW => ⟨⟨0, (), rfl, e1, Cp.end e2 hp ht⟩, hp.2.1.F ht⟩) hp.2.1.2.2 dX3_isRec_18
    · have hf := pif_t c_5 hf
      refine lv_iconst (v := 1) hx hb dX3_isRec_13 (by decide) ?_
      refine lv_goto (tgt := 18) hx hb dX3_isRec_14 (by decide) ?_
      obtain ⟨e1, e2⟩ := pr_some hf
      exact W.zret (v := 1) hx hb hr rfl (fun t ht hW => ⟨⟨1, (), rfl, e1, Cp.end e2 hp ht⟩, hp.2.1.F ht⟩) hp.2.1.2.2 dX3_isRec_18
noncomputable def fX3_groupBit (p0 : Option Nat) (st : CS) : Option (Int32 × CS) := pif (p0 = none) (some ((0 : Int32), st)) (ono p0 (fun a_2 => gd (qk st a_2 = 3) (pif ((qI st a_2 2) = 0) (some ((0 : Int32), st)) (some ((1 : Int32) <<< ((qI st a_2 2) &&& 31), st)))))
set_option maxHeartbeats 1000000 in
theorem mo_X3_groupBit (p0 : Option Nat) (st : CS) (r : Int32) (st' : CS) (hf : fX3_groupBit p0 st = some (r, st')) : Ke st st' := by
  unfold fX3_groupBit at hf
  have hm : Ke st st := Ke.rf
  rcases pif_or hf with ⟨c_1, hf⟩ | ⟨c_1, hf⟩
  · obtain ⟨e1, e2⟩ := pr_some hf
    exact e2 ▸ hm
  · obtain ⟨a_2, ha_3, hf⟩ := ono_some hf
    obtain ⟨hk_4, hf⟩ := gd_some hf
    rcases pif_or hf with ⟨c_5, hf⟩ | ⟨c_5, hf⟩
    · obtain ⟨e1, e2⟩ := pr_some hf
      exact e2 ▸ hm
    · obtain ⟨e1, e2⟩ := pr_some hf
      exact e2 ▸ hm
def wq_X3_groupBit : List Cond := .code yX3_groupBit cX3_groupBit 1 (some .int) :: (([] : List Cond) ++ wsX00)
set_option maxHeartbeats 4000000 in
set_option maxRecDepth 100000 in
theorem c_X3_groupBit (l : Launch) (dC : Nat → ClassId) (dI : Nat → Nat → Nat) (ka ad : Nat → Nat) (ct : Nat → ClassId) (p0 : Option Nat) (st st' : CS) (r : Int32) (hf : fX3_groupBit p0 st = some (r, st')) (sz : Nat) : Met l yX3_groupBit wq_X3_groupBit ({ frames := 0, cells := 0, slots := 0, locals := 0 }) (va_Pc [va_rf (Option.map ad p0)] (PrC (dC, dI) ct ka ad st sz)) (va_Qi (fun r' (_ : Unit) => r' = r) (fun _ => CB (dC, dI) ct ka ad st' (aC ad st sz)) (aC ad st sz)) 0 0 (aC ad st sz) := by
  refine Met.ofW (cc := cX3_groupBit) (maxL := 1) (ret := (some .int)) (by decide) rfl ?_
  intro p e s m args below meth c s₁ B hml hv
  obtain ⟨rfl, hsz, hw0, hK, hN, hZ, hC, hR, hL, hw1, hw2⟩ := hv
  have hx := B.exec
  have hb := B.bytes
  have hr := B.returns
  have hts := atoms_spec (ws := wq_X3_groupBit) B.pre
  have hown : s.vm.findClass RX3 = some m.cls := findClass_of_methodNamed B.named
  have iRX0 : ∀ w ∈ u_ws RX0 TX0 7, w ∈ wq_X3_groupBit := fun w h => List.mem_cons_of_mem _ (List.mem_append_right _ h)
  subst hsz
  have hp : Cp (dC, dI) ka ad ct (aC ad st s.heap.size) s.heap st s.heap [] := ⟨fun i a b => ⟨hw0 i a b, Or.inl ⟨i, a, b, rfl⟩⟩, va_S.rf, hw1, hw2⟩
  generalize hAe : aC ad st s.heap.size = A at hp hZ hC ⊢
  have hA : ∀ q : Nat, s.heap.size ≤ q → A q := fun q h => by rw [← hAe]; exact Or.inr h
  have hl := lv_entry ([va_rf (Option.map ad p0)]) (n := 1) (by simp [lg_sl, rf_cat, vc_i, vc_l, vc_r, vc_n])
  rw [lg_entry_eq]
  generalize (lg_sl ([va_rf (Option.map ad p0)]) ++ List.replicate (1 - (lg_sl ([va_rf (Option.map ad p0)])).length) Slot.unset).toArray = ls at hl ⊢
  have hl : lv_has ls 1 [(0, va_rf (Option.map ad p0))] := by simpa [lv_args, rf_cat, vc_i, vc_l, vc_r, vc_n] using hl
  unfold fX3_groupBit at hf
  refine o_aload_n hx hb dX3_groupBit_0 rfl (lv_at hl 0 rfl) ?_
  refine o_ifnull (tgt := 11) hx hb dX3_groupBit_1 (by decide) (fun c_1 => ?_) (fun c_1 => ?_)
  · have hf := pif_t c_1 hf
    refine lv_iconst (v := 0) hx hb dX3_groupBit_11 (by decide) ?_
    refine lv_goto (tgt := 21) hx hb dX3_groupBit_12 (by decide) ?_
    obtain ⟨e1, e2⟩ := pr_some hf
    exact W.iret (v := 0) hx hb hr (fun t ht hW => ⟨⟨0, (), rfl, e1, Cp.end e2 hp ht⟩, hp.2.1.F ht⟩) hp.2.1.2.2 dX3_groupBit_21
  · have hf := pif_f c_1 hf
    refine o_aload_n hx hb dX3_groupBit_4 rfl (lv_at hl 0 rfl) ?_
    obtain ⟨a_2, ha_3, hf⟩ := ono_some hf
    refine o_at ha_3 ?_
    obtain ⟨hk_4, hf⟩ := gd_some hf
    refine q_gi (ci := 2) (C := RX0) (T := TX0) (N := 7) (k := 2) hx hb hts iRX0 hown hK hp hk_4 (by decide) rfl rfl (by decide) rfl (Or.inr ⟨_, va_Nw.use rfl (hN.1 (.fieldLinkNest RX3 113 "RecordBench$Field" "group" "I" "RecordBench") (by decide +kernel))⟩) (fun _ h9 => h9) dX3_groupBit_5 ?_
    refine lv_if_ne (tgt := 15) hx hb dX3_groupBit_8 (by decide) (fun c_5 => ?_) (fun c_5 => ?_)
    · have hf := pif_f c_5 hf
      refine lv_iconst (v := 1) hx hb dX3_groupBit_15 (by decide) ?_
      refine o_aload_n hx hb dX3_groupBit_16 rfl (lv_at hl 0 rfl) ?_
      refine o_at ha_3 ?_
      refine q_gi (ci := 2) (C := RX0) (T := TX0) (N := 7) (k := 2) hx hb hts iRX0 hown hK hp hk_4 (by decide) rfl rfl (by decide) rfl (Or.inr ⟨_, va_Nw.use rfl (hN.1 (.fieldLinkNest RX3 113 "RecordBench$Field" "group" "I" "RecordBench") (by decide +kernel))⟩) (fun _ h9 => h9) dX3_groupBit_17 ?_
      refine lv_ishl hx hb dX3_groupBit_20 ?_
      obtain ⟨e1, e2⟩ := pr_some hf
      exact W.iret (v := (1 : Int32) <<< ((qI st a_2 2) &&& 31)) hx hb hr (fun t ht hW => ⟨⟨(1 : Int32) <<< ((qI st a_2 2) &&& 31), (), rfl, e1, Cp.end e2 hp ht⟩, hp.2.1.F ht⟩) hp.2.1.2.2 dX3_groupBit_21
    · have hf := pif_t c_5 hf
      refine lv_iconst (v := 0) hx hb dX3_groupBit_11 (by decide) ?_
      refine lv_goto (tgt := 21) hx hb dX3_groupBit_12 (by decide) ?_
      obtain ⟨e1, e2⟩ := pr_some hf
      exact W.iret (v := 0) hx hb hr (fun t ht hW => ⟨⟨0, (), rfl, e1, Cp.end e2 hp ht⟩, hp.2.1.F ht⟩) hp.2.1.2.2 dX3_groupBit_21
noncomputable def fX3_fits (p0 : Option Nat) (p1 : Option Nat) (p2 : Option Nat) (st : CS) : Option (Int32 × CS) := ono p1 (fun a_1 => gd (qk st a_1 = 3) (bnd (fX0_isNumber a_1 st) (fun r_6 st_4 => pif (r_6 = 0) (pif ((qI st_4 a_1 1) = 5) (ono p0 (fun a_9 => gd (qk st_4 a_9 = 5) (ono p2 (fun a_12 => gd (qk st_4 a_12 = 8) (bnd (fX5_isText a_12 (qI st_4 a_9 3) (qI st_4 a_9 4) st_4) (fun r_17 st_15 => pif (r_17 = 0) (some ((0 : Int32), st_15)) (some ((1 : Int32), st_15)))))))) (some ((1 : Int32), st_4))) (ono p0 (fun a_19 => gd (qk st_4 a_19 = 5) (bnd (fX2_asNumber a_19 st_4) (fun r_24 st_22 => bnd (fX0_holds a_1 r_24 st_22) (fun r_27 st_25 => gd (narrow .boolean (.int r_27) = .int r_27) (some (r_27, st_25))))))))))
set_option maxHeartbeats 1000000 in
theorem mo_X3_fits (p0 : Option Nat) (p1 : Option Nat) (p2 : Option Nat) (st : CS) (r : Int32) (st' : CS) (hf : fX3_fits p0 p1 p2 st = some (r, st')) : Ke st st' := by
  unfold fX3_fits at hf
  have hm : Ke st st := Ke.rf
  obtain ⟨a_1, ha_2, hf⟩ := ono_some hf
  obtain ⟨hk_3, hf⟩ := gd_some hf
  obtain ⟨r_6, st_4, hc_5, hf⟩ := bnd_some hf
  have hm := hm.tr (mo_X0_isNumber a_1 _ _ _ hc_5)
  rcases pif_or hf with ⟨c_7, hf⟩ | ⟨c_7, hf⟩
  · rcases pif_or hf with ⟨c_8, hf⟩ | ⟨c_8, hf⟩
    · obtain ⟨a_9, ha_10, hf⟩ := ono_some hf
      obtain ⟨hk_11, hf⟩ := gd_some hf
      obtain ⟨a_12, ha_13, hf⟩ := ono_some hf
      obtain ⟨hk_14, hf⟩ := gd_some hf
      obtain ⟨r_17, st_15, hc_16, hf⟩ := bnd_some hf
      have hm := hm.tr (mo_X5_isText a_12 (qI st_4 a_9 3) (qI st_4 a_9 4) _ _ _ hc_16)
      rcases pif_or hf with ⟨c_18, hf⟩ | ⟨c_18, hf⟩
      · obtain ⟨e1, e2⟩ := pr_some hf
        exact e2 ▸ hm
      · obtain ⟨e1, e2⟩ := pr_some hf
        exact e2 ▸ hm
    · obtain ⟨e1, e2⟩ := pr_some hf
      exact e2 ▸ hm
  · obtain ⟨a_19, ha_20, hf⟩ := ono_some hf
    obtain ⟨hk_21, hf⟩ := gd_some hf
    obtain ⟨r_24, st_22, hc_23, hf⟩ := bnd_some hf
    have hm := hm.tr (mo_X2_asNumber a_19 _ _ _ hc_23)
    obtain ⟨r_27, st_25, hc_26, hf⟩ := bnd_some hf
    have hm := hm.tr (mo_X0_holds a_1 r_24 _ _ _ hc_26)
    obtain ⟨hz, hf⟩ := gd_some hf
    obtain ⟨e1, e2⟩ := pr_some hf
    exact e2 ▸ hm
def wq_X3_fits : List Cond := .code yX3_fits cX3_fits 3 (some .boolean) :: (([.methodLink RX3 96 yX0_isNumber, .instanceMethod yX0_isNumber, .selects RX0 yX0_isNumber yX0_isNumber, .initialized RX0, .methodLink RX3 110 yX5_isText, .instanceMethod yX5_isText, .selects RX5 yX5_isText yX5_isText, .initialized RX5, .methodLink RX3 99 yX2_asNumber, .instanceMethod yX2_asNumber, .selects RX2 yX2_asNumber yX2_asNumber, .initialized RX2, .methodLink RX3 103 yX0_holds, .instanceMethod yX0_holds, .selects RX0 yX0_holds yX0_holds, .code yX0_isNumber cX0_isNumber 1 (some .boolean), .fieldLink RX0 15 "RecordBench$Field" "kind" "I", .code yX5_isText cX5_isText 4 (some .boolean), .methodLink RX5 48 yX5_byteAt, .instanceMethod yX5_byteAt, .selects RX5 yX5_byteAt yX5_byteAt, .methodLink RX5 52 yX5_isTextByte, .static yX5_isTextByte, .code yX5_byteAt cX5_byteAt 2 (some .int), .fieldLink RX5 21 "RecordBench$Row" "size" "I", .fieldLink RX5 15 "RecordBench$Row" "bytes" "[I", .code yX5_isTextByte cX5_isTextByte 1 (some .boolean), .code yX2_asNumber cX2_asNumber 1 (some .long), .fieldLink RX2 19 "RecordBench$Piece" "raw" "J", .code yX0_holds cX0_holds 3 (some .boolean), .constantLong RX0 37 (-128), .constantLong RX0 39 (127), .constantLong RX0 41 (-2147483648), .constantLong RX0 43 (2147483647)] : List Cond) ++ wsX00 ++ wsX20 ++ wsX50)
theorem gs_wq_X3_fits_wsX00 : GoodIn wq_X3_fits wsX00 := fun w h => ⟨List.mem_cons_of_mem _ (List.mem_append_left _ (List.mem_append_left _ (List.mem_append_right _ h))), (gt_wsX00 w h).2⟩
set_option maxRecDepth 20000 in
theorem gq_X3_fits_X0_isNumber_96 : GoodIn wq_X3_fits (wsV RX3 96 RX0 yX0_isNumber wq_X0_isNumber) := goodIn_app (goodIn_r _ [1, 2, 3, 4] rfl rfl) (goodIn_ca (goodIn_r _ [16, 17] rfl rfl) gs_wq_X3_fits_wsX00)
theorem gs_wq_X3_fits_wsX50 : GoodIn wq_X3_fits wsX50 := fun w h => ⟨List.mem_cons_of_mem _ (List.mem_append_right _ h), (gt_wsX50 w h).2⟩
set_option maxRecDepth 20000 in
theorem gq_X3_fits_X5_isText_110 : GoodIn wq_X3_fits (wsV RX3 110 RX5 yX5_isText wq_X5_isText) := goodIn_app (goodIn_r _ [5, 6, 7, 8] rfl rfl) (goodIn_ca (goodIn_r _ [18, 19, 20, 21, 8, 22, 23, 24, 25, 26, 27] rfl rfl) gs_wq_X3_fits_wsX50)
theorem gs_wq_X3_fits_wsX20 : GoodIn wq_X3_fits wsX20 := fun w h => ⟨List.mem_cons_of_mem _ (List.mem_append_left _ (List.mem_append_right _ h)), (gt_wsX20 w h).2⟩
set_option maxRecDepth 20000 in
theorem gq_X3_fits_X2_asNumber_99 : GoodIn wq_X3_fits (wsV RX3 99 RX2 yX2_asNumber wq_X2_asNumber) := goodIn_app (goodIn_r _ [9, 10, 11, 12] rfl rfl) (goodIn_ca (goodIn_r _ [28, 29] rfl rfl) gs_wq_X3_fits_wsX20)
set_option maxRecDepth 20000 in
theorem gq_X3_fits_X0_holds_103 : GoodIn wq_X3_fits (wsV RX3 103 RX0 yX0_holds wq_X0_holds) := goodIn_app (goodIn_r _ [13, 14, 15, 4] rfl rfl) (goodIn_ca (goodIn_r _ [30, 17, 31, 32, 33, 34] rfl rfl) gs_wq_X3_fits_wsX00)
set_option maxHeartbeats 4000000 in
set_option maxRecDepth 100000 in
theorem c_X3_fits (l : Launch) (dC : Nat → ClassId) (dI : Nat → Nat → Nat) (ka ad : Nat → Nat) (ct : Nat → ClassId) (p0 : Option Nat) (p1 : Option Nat) (p2 : Option Nat) (st st' : CS) (r : Int32) (hf : fX3_fits p0 p1 p2 st = some (r, st')) (sz : Nat) : Met l yX3_fits wq_X3_fits ({ frames := 2, cells := 0, slots := 0, locals := 52 }) (va_Pc [va_rf (Option.map ad p0), va_rf (Option.map ad p1), va_rf (Option.map ad p2)] (PrC (dC, dI) ct ka ad st sz)) (va_Qi (fun r' (_ : Unit) => r' = r) (fun _ => CB (dC, dI) ct ka ad st' (aC ad st sz)) (aC ad st sz)) 0 0 (aC ad st sz) := by
  refine Met.ofW (cc := cX3_fits) (maxL := 3) (ret := (some .boolean)) (by decide) rfl ?_
  intro p e s m args below meth c s₁ B hml hv
  obtain ⟨rfl, hsz, hw0, hK, hN, hZ, hC, hR, hL, hw1, hw2⟩ := hv
  have hx := B.exec
  have hb := B.bytes
  have hr := B.returns
  have hts := atoms_spec (ws := wq_X3_fits) B.pre
  have hown : s.vm.findClass RX3 = some m.cls := findClass_of_methodNamed B.named
  have iRX0 : ∀ w ∈ u_ws RX0 TX0 7, w ∈ wq_X3_fits := fun w h => List.mem_cons_of_mem _ (List.mem_append_left _ (List.mem_append_left _ (List.mem_append_right _ h)))
  have iRX2 : ∀ w ∈ u_ws RX2 TX2 8, w ∈ wq_X3_fits := fun w h => List.mem_cons_of_mem _ (List.mem_append_left _ (List.mem_append_right _ h))
  subst hsz
  have hp : Cp (dC, dI) ka ad ct (aC ad st s.heap.size) s.heap st s.heap [] := ⟨fun i a b => ⟨hw0 i a b, Or.inl ⟨i, a, b, rfl⟩⟩, va_S.rf, hw1, hw2⟩
  generalize hAe : aC ad st s.heap.size = A at hp hZ hC ⊢
  have hA : ∀ q : Nat, s.heap.size ≤ q → A q := fun q h => by rw [← hAe]; exact Or.inr h
  have hl := lv_entry ([va_rf (Option.map ad p0), va_rf (Option.map ad p1), va_rf (Option.map ad p2)]) (n := 3) (by simp [lg_sl, rf_cat, vc_i, vc_l, vc_r, vc_n])
  rw [lg_entry_eq]
  generalize (lg_sl ([va_rf (Option.map ad p0), va_rf (Option.map ad p1), va_rf (Option.map ad p2)]) ++ List.replicate (3 - (lg_sl ([va_rf (Option.map ad p0), va_rf (Option.map ad p1), va_rf (Option.map ad p2)])).length) Slot.unset).toArray = ls at hl ⊢
  have hl : lv_has ls 3 [(0, va_rf (Option.map ad p0)), (1, va_rf (Option.map ad p1)), (2, va_rf (Option.map ad p2))] := by simpa [lv_args, rf_cat, vc_i, vc_l, vc_r, vc_n] using hl
  unfold fX3_fits at hf
  refine o_aload_n hx hb dX3_fits_0 rfl (lv_at hl 1 rfl) ?_
  obtain ⟨a_1, ha_2, hf⟩ := ono_some hf
  refine o_at ha_2 ?_
  obtain ⟨hk_3, hf⟩ := gd_some hf
  obtain ⟨r_6, st_4, hc_5, hf⟩ := bnd_some hf
  refine q_ci hp hA (va_runV (As := []) (rest := []) ⟨hx, hb, hml, hown, hts⟩ (c_X0_isNumber l dC dI ka ad ct a_1 _ _ _ hc_5 _) (cwV 0 hts gq_X3_fits_X0_isNumber_96 rfl rfl rfl (by decide +kernel) ⟨Nat.le_of_ble_eq_true rfl, Nat.le_of_ble_eq_true rfl⟩) ⟨PrC.blind _, q_rv2 hK hp hC hk_3, q_pre hp hK hN hZ hC hR hL hA⟩ rfl rfl hl.1 rfl (lv_room (Nat.le_of_ble_eq_true rfl)) dX3_fits_1 ⟨Nat.le_of_ble_eq_true rfl, Nat.le_of_ble_eq_true rfl⟩) (fun H locs hp => ?_)
  have hk_3 : qk st_4 a_1 = 3 := by rw [(mo_X0_isNumber a_1 _ _ _ hc_5).2.2.1]; exact hk_3
  refine lv_if_eq (tgt := 16) hx hb dX3_fits_4 (by decide) (fun c_7 => ?_) (fun c_7 => ?_)
  · have hf := pif_t c_7 hf
    refine o_aload_n hx hb dX3_fits_16 rfl (lv_at hl 1 rfl) ?_
    refine o_at ha_2 ?_
    refine q_gi (ci := 2) (C := RX0) (T := TX0) (N := 7) (k := 1) hx hb hts iRX0 hown hK hp hk_3 (by decide) rfl rfl (by decide) rfl (Or.inr ⟨_, va_Nw.use rfl (hN.1 (.fieldLinkNest RX3 107 "RecordBench$Field" "kind" "I" "RecordBench") (by decide +kernel))⟩) (fun _ h9 => h9) dX3_fits_17 ?_
    refine lv_iconst (v := 5) hx hb dX3_fits_20 (by decide) ?_
    refine lv_icmp_ne (tgt := 39) hx hb dX3_fits_21 (by decide) (fun c_8 => ?_) (fun c_8 => ?_)
    · have hf := pif_f c_8 hf
      refine lv_iconst (v := 1) hx hb dX3_fits_39 (by decide) ?_
      refine lv_goto (tgt := 44) hx hb dX3_fits_40 (by decide) ?_
      obtain ⟨e1, e2⟩ := pr_some hf
      exact W.zret (v := 1) hx hb hr rfl (fun t ht hW => ⟨⟨1, (), rfl, e1, Cp.end e2 hp ht⟩, hp.2.1.F ht⟩) hp.2.1.2.2 dX3_fits_44
    · have hf := pif_t c_8 hf
      refine o_aload_n hx hb dX3_fits_24 rfl (lv_at hl 2 rfl) ?_
      refine o_aload_n hx hb dX3_fits_25 rfl (lv_at hl 0 rfl) ?_
      obtain ⟨a_9, ha_10, hf⟩ := ono_some hf
      refine o_at ha_10 ?_
      obtain ⟨hk_11, hf⟩ := gd_some hf
      refine q_gi (ci := 4) (C := RX2) (T := TX2) (N := 8) (k := 3) hx hb hts iRX2 hown hK hp hk_11 (by decide) rfl rfl (by decide) rfl (Or.inr ⟨_, va_Nw.use rfl (hN.1 (.fieldLinkNest RX3 64 "RecordBench$Piece" "body" "I" "RecordBench") (by decide +kernel))⟩) (fun _ h9 => h9) dX3_fits_26 ?_
      refine o_aload_n hx hb dX3_fits_29 rfl (lv_at hl 0 rfl) ?_
      refine o_at ha_10 ?_
      refine q_gi (ci := 4) (C := RX2) (T := TX2) (N := 8) (k := 4) hx hb hts iRX2 hown hK hp hk_11 (by decide) rfl rfl (by decide) rfl (Or.inr ⟨_, va_Nw.use rfl (hN.1 (.fieldLinkNest RX3 67 "RecordBench$Piece" "end" "I" "RecordBench") (by decide +kernel))⟩) (fun _ h9 => h9) dX3_fits_30 ?_
      obtain ⟨a_12, ha_13, hf⟩ := ono_some hf
      refine o_at2 ha_13 ?_
      obtain ⟨hk_14, hf⟩ := gd_some hf
      obtain ⟨r_17, st_15, hc_16, hf⟩ := bnd_some hf
      refine q_ci hp hA (va_runV (As := [.int (qI st_4 a_9 3), .int (qI st_4 a_9 4)]) (rest := []) ⟨hx, hb, hml, hown, hts⟩ (c_X5_isText l dC dI ka ad ct a_12 (qI st_4 a_9 3) (qI st_4 a_9 4) _ _ _ hc_16 _) (cwV 2 hts gq_X3_fits_X5_isText_110 rfl rfl rfl (by decide +kernel) ⟨Nat.le_of_ble_eq_true rfl, Nat.le_of_ble_eq_true rfl⟩) ⟨PrC.blind _, q_rv7 hK hp hC hk_14, q_pre hp hK hN hZ hC hR hL hA⟩ rfl rfl hl.1 rfl (lv_room (Nat.le_of_ble_eq_true rfl)) dX3_fits_33 ⟨Nat.le_of_ble_eq_true rfl, Nat.le_of_ble_eq_true rfl⟩) (fun H locs hp => ?_)
      have hk_3 : qk st_15 a_1 = 3 := by rw [(mo_X5_isText a_12 (qI st_4 a_9 3) (qI st_4 a_9 4) _ _ _ hc_16).2.2.1]; exact hk_3
      have hk_11 : qk st_15 a_9 = 5 := by rw [(mo_X5_isText a_12 (qI st_4 a_9 3) (qI st_4 a_9 4) _ _ _ hc_16).2.2.1]; exact hk_11
      have hk_14 : qk st_15 a_12 = 8 := by rw [(mo_X5_isText a_12 (qI st_4 a_9 3) (qI st_4 a_9 4) _ _ _ hc_16).2.2.1]; exact hk_14
      refine lv_if_eq (tgt := 43) hx hb dX3_fits_36 (by decide) (fun c_18 => ?_) (fun c_18 => ?_)
      · have hf := pif_t c_18 hf
        refine lv_iconst (v := 0) hx hb dX3_fits_43 (by decide) ?_
        obtain ⟨e1, e2⟩ := pr_some hf
        exact W.zret (v := 0) hx hb hr rfl (fun t ht hW => ⟨⟨0, (), rfl, e1, Cp.end e2 hp ht⟩, hp.2.1.F ht⟩) hp.2.1.2.2 dX3_fits_44
      · have hf := pif_f c_18 hf
        refine lv_iconst (v := 1) hx hb dX3_fits_39 (by decide) ?_
        refine lv_goto (tgt := 44) hx hb dX3_fits_40 (by decide) ?_
        obtain ⟨e1, e2⟩ := pr_some hf
        exact W.zret (v := 1) hx hb hr rfl (fun t ht hW => ⟨⟨1, (), rfl, e1, Cp.end e2 hp ht⟩, hp.2.1.F ht⟩) hp.2.1.2.2 dX3_fits_44
  · have hf := pif_f c_7 hf
    refine o_aload_n hx hb dX3_fits_7 rfl (lv_at hl 1 rfl) ?_
    refine o_aload_n hx hb dX3_fits_8 rfl (lv_at hl 0 rfl) ?_
    obtain ⟨a_19, ha_20, hf⟩ := ono_some hf
    refine o_at ha_20 ?_
    obtain ⟨hk_21, hf⟩ := gd_some hf
    obtain ⟨r_24, st_22, hc_23, hf⟩ := bnd_some hf
    refine q_cl hp hA (va_runV (As := []) (rest := [va_rf (Option.map ad p1)]) ⟨hx, hb, hml, hown, hts⟩ (c_X2_asNumber l dC dI ka ad ct a_19 _ _ _ hc_23 _) (cwV 0 hts gq_X3_fits_X2_asNumber_99 rfl rfl rfl (by decide +kernel) ⟨Nat.le_of_ble_eq_true rfl, Nat.le_of_ble_eq_true rfl⟩) ⟨PrC.blind _, q_rv4 hK hp hC hk_21, q_pre hp hK hN hZ hC hR hL hA⟩ rfl rfl hl.1 rfl (lv_room (by simp [rf_cat, vc_i, vc_l, vc_r, vc_n])) dX3_fits_9 ⟨Nat.le_of_ble_eq_true rfl, Nat.le_of_ble_eq_true rfl⟩) (fun H locs hp => ?_)
    have hk_3 : qk st_22 a_1 = 3 := by rw [(mo_X2_asNumber a_19 _ _ _ hc_23).2.2.1]; exact hk_3
    have hk_21 : qk st_22 a_19 = 5 := by rw [(mo_X2_asNumber a_19 _ _ _ hc_23).2.2.1]; exact hk_21
    refine o_at1 ha_2 ?_
    obtain ⟨r_27, st_25, hc_26, hf⟩ := bnd_some hf
    refine q_ci hp hA (va_runV (As := [.long r_24]) (rest := []) ⟨hx, hb, hml, hown, hts⟩ (c_X0_holds l dC dI ka ad ct a_1 r_24 _ _ _ hc_26 _) (cwV 1 hts gq_X3_fits_X0_holds_103 rfl rfl rfl (by decide +kernel) ⟨Nat.le_of_ble_eq_true rfl, Nat.le_of_ble_eq_true rfl⟩) ⟨PrC.blind _, q_rv2 hK hp hC hk_3, q_pre hp hK hN hZ hC hR hL hA⟩ rfl rfl hl.1 rfl (lv_room (Nat.le_of_ble_eq_true rfl)) dX3_fits_12 ⟨Nat.le_of_ble_eq_true rfl, Nat.le_of_ble_eq_true rfl⟩) (fun H locs hp => ?_)
    have hk_3 : qk st_25 a_1 = 3 := by rw [(mo_X0_holds a_1 r_24 _ _ _ hc_26).2.2.1]; exact hk_3
    have hk_21 : qk st_25 a_19 = 5 := by rw [(mo_X0_holds a_1 r_24 _ _ _ hc_26).2.2.1]; exact hk_21
    obtain ⟨hz, hf⟩ := gd_some hf
    obtain ⟨e1, e2⟩ := pr_some hf
    exact W.zret (v := r_27) hx hb hr hz (fun t ht hW => ⟨⟨r_27, (), rfl, e1, Cp.end e2 hp ht⟩, hp.2.1.F ht⟩) hp.2.1.2.2 dX3_fits_15
noncomputable def fX3_faultOf_44  (l0 : Option Nat) (l1 : Option Nat) (l3 : Int32) (l4 : Int32) (gs : CS) : Option (Int32 × CS) := ono l0 (fun a_1 => gd (qk gs a_1 = 5) (pif (l3 < (qI gs a_1 0)) (bnd (fX3_groupBit l1 gs) (fun r_7 st_5 => pif ((l4 &&& r_7) = 0) (some ((0 : Int32), st_5)) (some ((7 : Int32), st_5)))) (some ((6 : Int32), gs))))
set_option maxHeartbeats 1000000 in
theorem mo_X3_faultOf_44   (l0 : Option Nat) (l1 : Option Nat) (l3 : Int32) (l4 : Int32) (gs : CS) (r : Int32) (st' : CS) (hf : fX3_faultOf_44  l0 l1 l3 l4 gs = some (r, st')) : Ke gs st' := by
  unfold fX3_faultOf_44 at hf
  have hm : Ke gs gs := Ke.rf
  obtain ⟨a_1, ha_2, hf⟩ := ono_some hf
  obtain ⟨hk_3, hf⟩ := gd_some hf
  rcases pif_or hf with ⟨c_4, hf⟩ | ⟨c_4, hf⟩
  · obtain ⟨r_7, st_5, hc_6, hf⟩ := bnd_some hf
    have hm := hm.tr (mo_X3_groupBit l1 _ _ _ hc_6)
    rcases pif_or hf with ⟨c_8, hf⟩ | ⟨c_8, hf⟩
    · obtain ⟨e1, e2⟩ := pr_some hf
      exact e2 ▸ hm
    · obtain ⟨e1, e2⟩ := pr_some hf
      exact e2 ▸ hm
  · obtain ⟨e1, e2⟩ := pr_some hf
    exact e2 ▸ hm
noncomputable def fX3_faultOf_29  (l0 : Option Nat) (l1 : Option Nat) (l2 : Option Nat) (l3 : Int32) (l4 : Int32) (gs : CS) : Option (Int32 × CS) := pif (l1 = none) (fX3_faultOf_44  l0 l1 l3 l4 gs) (bnd (fX3_fits l0 l1 l2 gs) (fun r_12 st_10 => pif (r_12 = 0) (some ((5 : Int32), st_10)) (fX3_faultOf_44  l0 l1 l3 l4 st_10)))
set_option maxHeartbeats 1000000 in
theorem mo_X3_faultOf_29   (l0 : Option Nat) (l1 : Option Nat) (l2 : Option Nat) (l3 : Int32) (l4 : Int32) (gs : CS) (r : Int32) (st' : CS) (hf : fX3_faultOf_29  l0 l1 l2 l3 l4 gs = some (r, st')) : Ke gs st' := by
  unfold fX3_faultOf_29 at hf
  have hm : Ke gs gs := Ke.rf
  rcases pif_or hf with ⟨c_9, hf⟩ | ⟨c_9, hf⟩
  · exact hm.tr (mo_X3_faultOf_44  l0 l1 l3 l4 gs _ _ hf)
  · obtain ⟨r_12, st_10, hc_11, hf⟩ := bnd_some hf
    have hm := hm.tr (mo_X3_fits l0 l1 l2 _ _ _ hc_11)
    rcases pif_or hf with ⟨c_13, hf⟩ | ⟨c_13, hf⟩
    · obtain ⟨e1, e2⟩ := pr_some hf
      exact e2 ▸ hm
    · exact hm.tr (mo_X3_faultOf_44  l0 l1 l3 l4 st_10 _ _ hf)
noncomputable def fX3_faultOf (p0 : Option Nat) (p1 : Option Nat) (p2 : Option Nat) (p3 : Int32) (p4 : Int32) (st : CS) : Option (Int32 × CS) := ono p0 (fun a_14 => gd (qk st a_14 = 5) (pif ((qI st a_14 5) = 0) (pif (p1 = none) (fX3_faultOf_29  p0 p1 p2 p3 p4 st) (ono p1 (fun a_19 => gd (qk st a_19 = 3) (bnd (fX0_hasLength a_19 st) (fun r_24 st_22 => pif ((qI st a_14 1) = r_24) (fX3_faultOf_29  p0 p1 p2 p3 p4 st_22) (some ((4 : Int32), st_22))))))) (some (qI st a_14 5, st))))
set_option maxHeartbeats 1000000 in
theorem mo_X3_faultOf (p0 : Option Nat) (p1 : Option Nat) (p2 : Option Nat) (p3 : Int32) (p4 : Int32) (st : CS) (r : Int32) (st' : CS) (hf : fX3_faultOf p0 p1 p2 p3 p4 st = some (r, st')) : Ke st st' := by
  unfold fX3_faultOf at hf
  have hm : Ke st st := Ke.rf
  obtain ⟨a_14, ha_15, hf⟩ := ono_some hf
  obtain ⟨hk_16, hf⟩ := gd_some hf
  rcases pif_or hf with ⟨c_17, hf⟩ | ⟨c_17, hf⟩
  · rcases pif_or hf with ⟨c_18, hf⟩ | ⟨c_18, hf⟩
    · exact hm.tr (mo_X3_faultOf_29  p0 p1 p2 p3 p4 st _ _ hf)
    · obtain ⟨a_19, ha_20, hf⟩ := ono_some hf
      obtain ⟨hk_21, hf⟩ := gd_some hf
      obtain ⟨r_24, st_22, hc_23, hf⟩ := bnd_some hf
      have hm := hm.tr (mo_X0_hasLength a_19 _ _ _ hc_23)
      rcases pif_or hf with ⟨c_25, hf⟩ | ⟨c_25, hf⟩
      · exact hm.tr (mo_X3_faultOf_29  p0 p1 p2 p3 p4 st_22 _ _ hf)
      · obtain ⟨e1, e2⟩ := pr_some hf
        exact e2 ▸ hm
  · obtain ⟨e1, e2⟩ := pr_some hf
    exact e2 ▸ hm
def wq_X3_faultOf : List Cond := .code yX3_faultOf cX3_faultOf 5 (some .int) :: (([.methodLink RX3 79 yX3_groupBit, .static yX3_groupBit, .initialized RX3, .methodLink RX3 92 yX3_fits, .static yX3_fits, .methodLink RX3 88 yX0_hasLength, .instanceMethod yX0_hasLength, .selects RX0 yX0_hasLength yX0_hasLength, .initialized RX0, .code yX3_groupBit cX3_groupBit 1 (some .int), .code yX3_fits cX3_fits 3 (some .boolean), .methodLink RX3 96 yX0_isNumber, .instanceMethod yX0_isNumber, .selects RX0 yX0_isNumber yX0_isNumber, .methodLink RX3 110 yX5_isText, .instanceMethod yX5_isText, .selects RX5 yX5_isText yX5_isText, .initialized RX5, .methodLink RX3 99 yX2_asNumber, .instanceMethod yX2_asNumber, .selects RX2 yX2_asNumber yX2_asNumber, .initialized RX2, .methodLink RX3 103 yX0_holds, .instanceMethod yX0_holds, .selects RX0 yX0_holds yX0_holds, .code yX0_isNumber cX0_isNumber 1 (some .boolean), .fieldLink RX0 15 "RecordBench$Field" "kind" "I", .code yX5_isText cX5_isText 4 (some .boolean), .methodLink RX5 48 yX5_byteAt, .instanceMethod yX5_byteAt, .selects RX5 yX5_byteAt yX5_byteAt, .methodLink RX5 52 yX5_isTextByte, .static yX5_isTextByte, .code yX5_byteAt cX5_byteAt 2 (some .int), .fieldLink RX5 21 "RecordBench$Row" "size" "I", .fieldLink RX5 15 "RecordBench$Row" "bytes" "[I", .code yX5_isTextByte cX5_isTextByte 1 (some .boolean), .code yX2_asNumber cX2_asNumber 1 (some .long), .fieldLink RX2 19 "RecordBench$Piece" "raw" "J", .code yX0_holds cX0_holds 3 (some .boolean), .constantLong RX0 37 (-128), .constantLong RX0 39 (127), .constantLong RX0 41 (-2147483648), .constantLong RX0 43 (2147483647), .code yX0_hasLength cX0_hasLength 1 (some .boolean)] : List Cond) ++ wsX20 ++ wsX00 ++ wsX50)
theorem gs_wq_X3_faultOf_wsX00 : GoodIn wq_X3_faultOf wsX00 := fun w h => ⟨List.mem_cons_of_mem _ (List.mem_append_left _ (List.mem_append_right _ h)), (gt_wsX00 w h).2⟩
set_option maxRecDepth 20000 in
theorem gq_X3_faultOf_X3_groupBit_79 : GoodIn wq_X3_faultOf (va_wsS RX3 79 yX3_groupBit wq_X3_groupBit) := goodIn_app (goodIn_r _ [1, 2, 3] rfl rfl) (goodIn_ca (goodIn_r _ [10] rfl rfl) gs_wq_X3_faultOf_wsX00)
theorem gs_wq_X3_faultOf_wsX20 : GoodIn wq_X3_faultOf wsX20 := fun w h => ⟨List.mem_cons_of_mem _ (List.mem_append_left _ (List.mem_append_left _ (List.mem_append_right _ h))), (gt_wsX20 w h).2⟩
theorem gs_wq_X3_faultOf_wsX50 : GoodIn wq_X3_faultOf wsX50 := fun w h => ⟨List.mem_cons_of_mem _ (List.mem_append_right _ h), (gt_wsX50 w h).2⟩
set_option maxRecDepth 20000 in
theorem gq_X3_faultOf_X3_fits_92 : GoodIn wq_X3_faultOf (va_wsS RX3 92 yX3_fits wq_X3_fits) := goodIn_app (goodIn_r _ [4, 5, 3] rfl rfl) (goodIn_ca (goodIn_ca (goodIn_ca (goodIn_r _ [11, 12, 13, 14, 9, 15, 16, 17, 18, 19, 20, 21, 22, 23, 24, 25, 26, 27, 28, 29, 30, 31, 32, 33, 34, 35, 36, 37, 38, 39, 40, 41, 42, 43, 44] rfl rfl) gs_wq_X3_faultOf_wsX00) gs_wq_X3_faultOf_wsX20) gs_wq_X3_faultOf_wsX50)
set_option maxRecDepth 20000 in
theorem gq_X3_faultOf_X0_hasLength_88 : GoodIn wq_X3_faultOf (wsV RX3 88 RX0 yX0_hasLength wq_X0_hasLength) := goodIn_app (goodIn_r _ [6, 7, 8, 9] rfl rfl) (goodIn_ca (goodIn_r _ [45, 27] rfl rfl) gs_wq_X3_faultOf_wsX00)
set_option maxHeartbeats 4000000 in
set_option maxRecDepth 100000 in
theorem c_X3_faultOf (l : Launch) (dC : Nat → ClassId) (dI : Nat → Nat → Nat) (ka ad : Nat → Nat) (ct : Nat → ClassId) (p0 : Option Nat) (p1 : Option Nat) (p2 : Option Nat) (p3 : Int32) (p4 : Int32) (st st' : CS) (r : Int32) (hf : fX3_faultOf p0 p1 p2 p3 p4 st = some (r, st')) (sz : Nat) : Met l yX3_faultOf wq_X3_faultOf ({ frames := 3, cells := 0, slots := 0, locals := 78 }) (va_Pc [va_rf (Option.map ad p0), va_rf (Option.map ad p1), va_rf (Option.map ad p2), .int p3, .int p4] (PrC (dC, dI) ct ka ad st sz)) (va_Qi (fun r' (_ : Unit) => r' = r) (fun _ => CB (dC, dI) ct ka ad st' (aC ad st sz)) (aC ad st sz)) 0 0 (aC ad st sz) := by
  refine Met.ofW (cc := cX3_faultOf) (maxL := 5) (ret := (some .int)) (by decide) rfl ?_
  intro p e s m args below meth c s₁ B hml hv
  obtain ⟨rfl, hsz, hw0, hK, hN, hZ, hC, hR, hL, hw1, hw2⟩ := hv
  have hx := B.exec
  have hb := B.bytes
  have hr := B.returns
  have hts := atoms_spec (ws := wq_X3_faultOf) B.pre
  have hown : s.vm.findClass RX3 = some m.cls := findClass_of_methodNamed B.named
  have iRX2 : ∀ w ∈ u_ws RX2 TX2 8, w ∈ wq_X3_faultOf := fun w h => List.mem_cons_of_mem _ (List.mem_append_left _ (List.mem_append_left _ (List.mem_append_right _ h)))
  subst hsz
  have hp : Cp (dC, dI) ka ad ct (aC ad st s.heap.size) s.heap st s.heap [] := ⟨fun i a b => ⟨hw0 i a b, Or.inl ⟨i, a, b, rfl⟩⟩, va_S.rf, hw1, hw2⟩
  generalize hAe : aC ad st s.heap.size = A at hp hZ hC ⊢
  have hA : ∀ q : Nat, s.heap.size ≤ q → A q := fun q h => by rw [← hAe]; exact Or.inr h
  have hl := lv_entry ([va_rf (Option.map ad p0), va_rf (Option.map ad p1), va_rf (Option.map ad p2), .int p3, .int p4]) (n := 5) (by simp [lg_sl, rf_cat, vc_i, vc_l, vc_r, vc_n])
  rw [lg_entry_eq]
  generalize (lg_sl ([va_rf (Option.map ad p0), va_rf (Option.map ad p1), va_rf (Option.map ad p2), .int p3, .int p4]) ++ List.replicate (5 - (lg_sl ([va_rf (Option.map ad p0), va_rf (Option.map ad p1), va_rf (Option.map ad p2), .int p3, .int p4])).length) Slot.unset).toArray = ls at hl ⊢
  have hl : lv_has ls 5 [(0, va_rf (Option.map ad p0)), (1, va_rf (Option.map ad p1)), (2, va_rf (Option.map ad p2)), (3, .int p3), (4, .int p4)] := by simpa [lv_args, rf_cat, vc_i, vc_l, vc_r, vc_n] using hl
  refine W_blk (fun (u : (Option Nat) × (Option Nat) × Int32 × Int32 × CS) H locs ls => match u with | (l0, l1, l3, l4, gs) => fX3_faultOf_44  l0 l1 l3 l4 gs = some (r, st') ∧ Cp (dC, dI) ka ad ct A s.heap gs H locs ∧ lv_has ls 5 [(0, va_rf (Option.map ad l0)), (1, va_rf (Option.map ad l1)), (3, .int l3), (4, .int l4)]) (fun (u : (Option Nat) × (Option Nat) × Int32 × Int32 × CS) ls => match u with | (l0, l1, l3, l4, gs) => F0 m 44 ls []) ?_ (fun J44 => ?_)
  · intro u H locs ls hu
    obtain ⟨l0, l1, l3, l4, gs⟩ := u
    obtain ⟨hf, hp, hl⟩ := hu
    show W p l e _ s m _ below meth c _ _ _ _ _ (F0 m 44 ls [])
    unfold fX3_faultOf_44 at hf
    refine o_aload_n hx hb dX3_faultOf_44 rfl (lv_at hl 0 rfl) ?_
    obtain ⟨a_1, ha_2, hf⟩ := ono_some hf
    refine o_at ha_2 ?_
    obtain ⟨hk_3, hf⟩ := gd_some hf
    refine q_gi (ci := 4) (C := RX2) (T := TX2) (N := 8) (k := 0) hx hb hts iRX2 hown hK hp hk_3 (by decide) rfl rfl (by decide) rfl (Or.inr ⟨_, va_Nw.use rfl (hN.1 (.fieldLinkNest RX3 47 "RecordBench$Piece" "number" "I" "RecordBench") (by decide +kernel))⟩) (fun _ h9 => h9) dX3_faultOf_45 ?_
    refine lv_iload_n hx hb dX3_faultOf_48 rfl (lv_at hl 2 rfl) ?_
    refine lv_icmp_gt (tgt := 55) hx hb dX3_faultOf_49 (by decide) (fun c_4 => ?_) (fun c_4 => ?_)
    · have hf := pif_t c_4 hf
      refine lv_iload hx hb dX3_faultOf_55 (lv_at hl 3 rfl) ?_
      refine o_aload_n hx hb dX3_faultOf_57 rfl (lv_at hl 1 rfl) ?_
      obtain ⟨r_7, st_5, hc_6, hf⟩ := bnd_some hf
      refine q_ci hp hA (va_runS (As := [va_rf (Option.map ad l1)]) (rest := [.int l4]) ⟨hx, hb, hml, hown, hts⟩ (c_X3_groupBit l dC dI ka ad ct l1 _ _ _ hc_6 _) (va_cwS 1 hts gq_X3_faultOf_X3_groupBit_79 rfl rfl rfl (by decide +kernel) ⟨Nat.le_of_ble_eq_true rfl, Nat.le_of_ble_eq_true rfl⟩) ⟨PrC.blind _, q_pre hp hK hN hZ hC hR hL hA⟩ rfl rfl hl.1 rfl (lv_room (Nat.le_of_ble_eq_true rfl)) dX3_faultOf_58 ⟨Nat.le_of_ble_eq_true rfl, Nat.le_of_ble_eq_true rfl⟩) (fun H locs hp => ?_)
      have hk_3 : qk st_5 a_1 = 5 := by rw [(mo_X3_groupBit l1 _ _ _ hc_6).2.2.1]; exact hk_3
      refine lv_iand hx hb dX3_faultOf_61 ?_
      refine lv_if_eq (tgt := 70) hx hb dX3_faultOf_62 (by decide) (fun c_8 => ?_) (fun c_8 => ?_)
      · have hf := pif_t c_8 hf
        refine lv_iconst (v := 0) hx hb dX3_faultOf_70 (by decide) ?_
        obtain ⟨e1, e2⟩ := pr_some hf
        exact W.iret (v := 0) hx hb hr (fun t ht hW => ⟨⟨0, (), rfl, e1, Cp.end e2 hp ht⟩, hp.2.1.F ht⟩) hp.2.1.2.2 dX3_faultOf_71
      · have hf := pif_f c_8 hf
        refine lv_bipush (v := 7) hx hb dX3_faultOf_65 (by decide) ?_
        refine lv_goto (tgt := 71) hx hb dX3_faultOf_67 (by decide) ?_
        obtain ⟨e1, e2⟩ := pr_some hf
        exact W.iret (v := 7) hx hb hr (fun t ht hW => ⟨⟨7, (), rfl, e1, Cp.end e2 hp ht⟩, hp.2.1.F ht⟩) hp.2.1.2.2 dX3_faultOf_71
    · have hf := pif_f c_4 hf
      refine lv_bipush (v := 6) hx hb dX3_faultOf_52 (by decide) ?_
      obtain ⟨e1, e2⟩ := pr_some hf
      exact W.iret (v := 6) hx hb hr (fun t ht hW => ⟨⟨6, (), rfl, e1, Cp.end e2 hp ht⟩, hp.2.1.F ht⟩) hp.2.1.2.2 dX3_faultOf_54
  refine W_blk (fun (u : (Option Nat) × (Option Nat) × (Option Nat) × Int32 × Int32 × CS) H locs ls => match u with | (l0, l1, l2, l3, l4, gs) => fX3_faultOf_29  l0 l1 l2 l3 l4 gs = some (r, st') ∧ Cp (dC, dI) ka ad ct A s.heap gs H locs ∧ lv_has ls 5 [(0, va_rf (Option.map ad l0)), (1, va_rf (Option.map ad l1)), (2, va_rf (Option.map ad l2)), (3, .int l3), (4, .int l4)]) (fun (u : (Option Nat) × (Option Nat) × (Option Nat) × Int32 × Int32 × CS) ls => match u with | (l0, l1, l2, l3, l4, gs) => F0 m 29 ls []) ?_ (fun J29 => ?_)
  · intro u H locs ls hu
    obtain ⟨l0, l1, l2, l3, l4, gs⟩ := u
    obtain ⟨hf, hp, hl⟩ := hu
    show W p l e _ s m _ below meth c _ _ _ _ _ (F0 m 29 ls [])
    unfold fX3_faultOf_29 at hf
    refine o_aload_n hx hb dX3_faultOf_29 rfl (lv_at hl 1 rfl) ?_
    refine o_ifnull (tgt := 44) hx hb dX3_faultOf_30 (by decide) (fun c_9 => ?_) (fun c_9 => ?_)
    · have hf := pif_t c_9 hf
      exact J44 (l0, l1, l3, l4, gs) _ _ _ ⟨hf, hp, (lv_sub hl [0, 1, 3, 4] rfl)⟩
    · have hf := pif_f c_9 hf
      refine o_aload_n hx hb dX3_faultOf_33 rfl (lv_at hl 0 rfl) ?_
      refine o_aload_n hx hb dX3_faultOf_34 rfl (lv_at hl 1 rfl) ?_
      refine o_aload_n hx hb dX3_faultOf_35 rfl (lv_at hl 2 rfl) ?_
      obtain ⟨r_12, st_10, hc_11, hf⟩ := bnd_some hf
      refine q_ci hp hA (va_runS (As := [va_rf (Option.map ad l0), va_rf (Option.map ad l1), va_rf (Option.map ad l2)]) (rest := []) ⟨hx, hb, hml, hown, hts⟩ (c_X3_fits l dC dI ka ad ct l0 l1 l2 _ _ _ hc_11 _) (va_cwS 3 hts gq_X3_faultOf_X3_fits_92 rfl rfl rfl (by decide +kernel) ⟨Nat.le_of_ble_eq_true rfl, Nat.le_of_ble_eq_true rfl⟩) ⟨PrC.blind _, q_pre hp hK hN hZ hC hR hL hA⟩ rfl rfl hl.1 rfl (lv_room (Nat.le_of_ble_eq_true rfl)) dX3_faultOf_36 ⟨Nat.le_of_ble_eq_true rfl, Nat.le_of_ble_eq_true rfl⟩) (fun H locs hp => ?_)
      refine lv_if_ne (tgt := 44) hx hb dX3_faultOf_39 (by decide) (fun c_13 => ?_) (fun c_13 => ?_)
      · have hf := pif_f c_13 hf
        exact J44 (l0, l1, l3, l4, st_10) _ _ _ ⟨hf, hp, (lv_sub hl [0, 1, 3, 4] rfl)⟩
      · have hf := pif_t c_13 hf
        refine lv_iconst (v := 5) hx hb dX3_faultOf_42 (by decide) ?_
        obtain ⟨e1, e2⟩ := pr_some hf
        exact W.iret (v := 5) hx hb hr (fun t ht hW => ⟨⟨5, (), rfl, e1, Cp.end e2 hp ht⟩, hp.2.1.F ht⟩) hp.2.1.2.2 dX3_faultOf_43
  unfold fX3_faultOf at hf
  refine o_aload_n hx hb dX3_faultOf_0 rfl (lv_at hl 0 rfl) ?_
  obtain ⟨a_14, ha_15, hf⟩ := ono_some hf
  refine o_at ha_15 ?_
  obtain ⟨hk_16, hf⟩ := gd_some hf
  refine q_gi (ci := 4) (C := RX2) (T := TX2) (N := 8) (k := 5) hx hb hts iRX2 hown hK hp hk_16 (by decide) rfl rfl (by decide) rfl (Or.inr ⟨_, va_Nw.use rfl (hN.1 (.fieldLinkNest RX3 83 "RecordBench$Piece" "fault" "I" "RecordBench") (by decide +kernel))⟩) (fun _ h9 => h9) dX3_faultOf_1 ?_
  refine lv_if_eq (tgt := 12) hx hb dX3_faultOf_4 (by decide) (fun c_17 => ?_) (fun c_17 => ?_)
  · have hf := pif_t c_17 hf
    refine o_aload_n hx hb dX3_faultOf_12 rfl (lv_at hl 1 rfl) ?_
    refine o_ifnull (tgt := 29) hx hb dX3_faultOf_13 (by decide) (fun c_18 => ?_) (fun c_18 => ?_)
    · have hf := pif_t c_18 hf
      exact J29 (p0, p1, p2, p3, p4, st) _ _ _ ⟨hf, hp, (lv_sub hl [0, 1, 2, 3, 4] rfl)⟩
    · have hf := pif_f c_18 hf
      refine o_aload_n hx hb dX3_faultOf_16 rfl (lv_at hl 0 rfl) ?_
      refine o_at ha_15 ?_
      refine q_gi (ci := 4) (C := RX2) (T := TX2) (N := 8) (k := 1) hx hb hts iRX2 hown hK hp hk_16 (by decide) rfl rfl (by decide) rfl (Or.inr ⟨_, va_Nw.use rfl (hN.1 (.fieldLinkNest RX3 84 "RecordBench$Piece" "withLength" "Z" "RecordBench") (by decide +kernel))⟩) (fun _ h9 => h9) dX3_faultOf_17 ?_
      refine o_aload_n hx hb dX3_faultOf_20 rfl (lv_at hl 1 rfl) ?_
      obtain ⟨a_19, ha_20, hf⟩ := ono_some hf
      refine o_at ha_20 ?_
      obtain ⟨hk_21, hf⟩ := gd_some hf
      obtain ⟨r_24, st_22, hc_23, hf⟩ := bnd_some hf
      refine q_ci hp hA (va_runV (As := []) (rest := [.int (qI st a_14 1)]) ⟨hx, hb, hml, hown, hts⟩ (c_X0_hasLength l dC dI ka ad ct a_19 _ _ _ hc_23 _) (cwV 0 hts gq_X3_faultOf_X0_hasLength_88 rfl rfl rfl (by decide +kernel) ⟨Nat.le_of_ble_eq_true rfl, Nat.le_of_ble_eq_true rfl⟩) ⟨PrC.blind _, q_rv2 hK hp hC hk_21, q_pre hp hK hN hZ hC hR hL hA⟩ rfl rfl hl.1 rfl (lv_room (Nat.le_of_ble_eq_true rfl)) dX3_faultOf_21 ⟨Nat.le_of_ble_eq_true rfl, Nat.le_of_ble_eq_true rfl⟩) (fun H locs hp => ?_)
      have hk_16 : qk st_22 a_14 = 5 := by rw [(mo_X0_hasLength a_19 _ _ _ hc_23).2.2.1]; exact hk_16
      have hk_21 : qk st_22 a_19 = 3 := by rw [(mo_X0_hasLength a_19 _ _ _ hc_23).2.2.1]; exact hk_21
      refine lv_icmp_eq (tgt := 29) hx hb dX3_faultOf_24 (by decide) (fun c_25 => ?_) (fun c_25 => ?_)
      · have hf := pif_t c_25 hf
        exact J29 (p0, p1, p2, p3, p4, st_22) _ _ _ ⟨hf, hp, (lv_sub hl [0, 1, 2, 3, 4] rfl)⟩
      · have hf := pif_f c_25 hf
        refine lv_iconst (v := 4) hx hb dX3_faultOf_27 (by decide) ?_
        obtain ⟨e1, e2⟩ := pr_some hf
        exact W.iret (v := 4) hx hb hr (fun t ht hW => ⟨⟨4, (), rfl, e1, Cp.end e2 hp ht⟩, hp.2.1.F ht⟩) hp.2.1.2.2 dX3_faultOf_28
  · have hf := pif_f c_17 hf
    refine o_aload_n hx hb dX3_faultOf_7 rfl (lv_at hl 0 rfl) ?_
    refine o_at ha_15 ?_
    refine q_gi (ci := 4) (C := RX2) (T := TX2) (N := 8) (k := 5) hx hb hts iRX2 hown hK hp hk_16 (by decide) rfl rfl (by decide) rfl (Or.inr ⟨_, va_Nw.use rfl (hN.1 (.fieldLinkNest RX3 83 "RecordBench$Piece" "fault" "I" "RecordBench") (by decide +kernel))⟩) (fun _ h9 => h9) dX3_faultOf_8 ?_
    obtain ⟨e1, e2⟩ := pr_some hf
    exact W.iret (v := qI st a_14 5) hx hb hr (fun t ht hW => ⟨⟨qI st a_14 5, (), rfl, e1, Cp.end e2 hp ht⟩, hp.2.1.F ht⟩) hp.2.1.2.2 dX3_faultOf_11
noncomputable def fX3_scan_154 (h0 : Nat) (F : Nat → (Option Nat) → Int32 → Int32 → (Option Nat) → Int32 → CS → Option (Int32 × CS)) (k48 : Option Nat → Int32 → Option Nat → Int32 → Option Nat → Int32 → Int32 → Int32 → Int32 → CS → Option (Int32 × CS)) (l1 : Option Nat) (l3 : Int32) (l4 : Option Nat) (l5 : Int32) (l6 : Option Nat) (l8 : Int32) (l10 : Int32) (l11 : Option Nat) (gs : CS) : Option (Int32 × CS) := bnd (fX3_groupBit l11 gs) (fun r_3 st_1 => nam (l8 ||| r_3) (fun v_4 => ono l6 (fun a_5 => gd (qk st_1 a_5 = 5) (nam (qI st_1 a_5 0) (fun v_8 => nam (qI st_1 a_5 4) (fun v_9 => nam (l10 + 1) (fun v_10 => k48 l1 l3 l4 l5 l6 v_8 v_4 v_9 v_10 st_1)))))))
set_option maxHeartbeats 1000000 in
theorem mo_X3_scan_154 (h0 : Nat) (F : Nat → (Option Nat) → Int32 → Int32 → (Option Nat) → Int32 → CS → Option (Int32 × CS)) (k48 : Option Nat → Int32 → Option Nat → Int32 → Option Nat → Int32 → Int32 → Int32 → Int32 → CS → Option (Int32 × CS)) (hk48 : ∀ (l1 : Option Nat) (l3 : Int32) (l4 : Option Nat) (l5 : Int32) (l6 : Option Nat) (l7 : Int32) (l8 : Int32) (l9 : Int32) (l10 : Int32) (gs : CS) (r : Int32) (st' : CS), k48 l1 l3 l4 l5 l6 l7 l8 l9 l10 gs = some (r, st') → Ke gs st') (hFm : ∀ (h0 : Nat) (p0 : Option Nat) (p1 : Int32) (p2 : Int32) (p3 : Option Nat) (p4 : Int32) (st : CS) (r : Int32) (st' : CS), F h0 p0 p1 p2 p3 p4 st = some (r, st') → Ke st st') (l1 : Option Nat) (l3 : Int32) (l4 : Option Nat) (l5 : Int32) (l6 : Option Nat) (l8 : Int32) (l10 : Int32) (l11 : Option Nat) (gs : CS) (r : Int32) (st' : CS) (hf : fX3_scan_154 h0 F k48 l1 l3 l4 l5 l6 l8 l10 l11 gs = some (r, st')) : Ke gs st' := by
  unfold fX3_scan_154 at hf
  have hm : Ke gs gs := Ke.rf
  obtain ⟨r_3, st_1, hc_2, hf⟩ := bnd_some hf
  have hm := hm.tr (mo_X3_groupBit l11 _ _ _ hc_2)
  obtain ⟨v_4, ev_4, hf⟩ := nam_some hf
  obtain ⟨a_5, ha_6, hf⟩ := ono_some hf
  obtain ⟨hk_7, hf⟩ := gd_some hf
  obtain ⟨v_8, ev_8, hf⟩ := nam_some hf
  obtain ⟨v_9, ev_9, hf⟩ := nam_some hf
  obtain ⟨v_10, ev_10, hf⟩ := nam_some hf
  exact hm.tr (hk48 l1 l3 l4 l5 l6 v_8 v_4 v_9 v_10 st_1 _ _ hf)
noncomputable def fX3_scan_48 (h0 : Nat) (F : Nat → (Option Nat) → Int32 → Int32 → (Option Nat) → Int32 → CS → Option (Int32 × CS))  : Nat → Option Nat → Int32 → Option Nat → Int32 → Option Nat → Int32 → Int32 → Int32 → Int32 → CS → Option (Int32 × CS)
  | 0 => fun _ _ _ _ _ _ _ _ _ _ => none
  | n + 1 => fun l1 l3 l4 l5 l6 l7 l8 l9 l10 gs => pif (120 ≤ l10) (some ((1 : Int32), gs)) (pif (l3 ≤ l9) (some ((1 : Int32), gs)) (ono l6 (fun a_13 => gd (qk gs a_13 = 5) (bnv (fX2_look a_13 l1 l9 l3 gs) (fun st_16 => ono l4 (fun a_19 => gd (qk st_16 a_19 = 4) (bnd (fX1_knownAt a_19 (qI st_16 a_13 0) st_16) (fun r_24 st_22 => bnd (fX3_faultOf l6 r_24 l1 l7 l8 st_22) (fun r_27 st_25 => pif (r_27 = 0) (bnd (fX3_isRec r_24 st_25) (fun r_31 st_29 => pif (r_31 = 0) (fX3_scan_154 h0 F (fX3_scan_48 h0 F n) l1 l3 l4 l5 l6 l8 l10 r_24 st_29) (gd (qk st_29 h0 = 6) (ono r_24 (fun a_34 => gd (qk st_29 a_34 = 3) (bnd (fX8_makeOf (qP st_29 h0 0) (qI st_29 a_34 3) st_29) (fun r_39 st_37 => bnd (F h0 l1 (qI st_29 a_13 3) (qI st_29 a_13 4) r_39 (l5 + 1) st_37) (fun r_42 st_40 => pif (r_42 = 0) (some ((0 : Int32), st_40)) (fX3_scan_154 h0 F (fX3_scan_48 h0 F n) l1 l3 l4 l5 l6 l8 l10 r_24 st_40))))))))) (gd (qk st_25 h0 = 6) (bnd (fX3_refuse h0 r_27 l9 st_25) (fun r_47 st_45 => gd (narrow .boolean (.int r_47) = .int r_47) (some (r_47, st_45))))))))))))))
theorem fX3_scan_48_z (h0 : Nat) (F : Nat → (Option Nat) → Int32 → Int32 → (Option Nat) → Int32 → CS → Option (Int32 × CS))  (l1 : Option Nat) (l3 : Int32) (l4 : Option Nat) (l5 : Int32) (l6 : Option Nat) (l7 : Int32) (l8 : Int32) (l9 : Int32) (l10 : Int32) (gs : CS) : fX3_scan_48 h0 F 0 l1 l3 l4 l5 l6 l7 l8 l9 l10 gs = none := rfl
theorem fX3_scan_48_s (h0 : Nat) (F : Nat → (Option Nat) → Int32 → Int32 → (Option Nat) → Int32 → CS → Option (Int32 × CS))  (n : Nat) (l1 : Option Nat) (l3 : Int32) (l4 : Option Nat) (l5 : Int32) (l6 : Option Nat) (l7 : Int32) (l8 : Int32) (l9 : Int32) (l10 : Int32) (gs : CS) : fX3_scan_48 h0 F (n + 1) l1 l3 l4 l5 l6 l7 l8 l9 l10 gs = pif (120 ≤ l10) (some ((1 : Int32), gs)) (pif (l3 ≤ l9) (some ((1 : Int32), gs)) (ono l6 (fun a_13 => gd (qk gs a_13 = 5) (bnv (fX2_look a_13 l1 l9 l3 gs) (fun st_16 => ono l4 (fun a_19 => gd (qk st_16 a_19 = 4) (bnd (fX1_knownAt a_19 (qI st_16 a_13 0) st_16) (fun r_24 st_22 => bnd (fX3_faultOf l6 r_24 l1 l7 l8 st_22) (fun r_27 st_25 => pif (r_27 = 0) (bnd (fX3_isRec r_24 st_25) (fun r_31 st_29 => pif (r_31 = 0) (fX3_scan_154 h0 F (fX3_scan_48 h0 F n) l1 l3 l4 l5 l6 l8 l10 r_24 st_29) (gd (qk st_29 h0 = 6) (ono r_24 (fun a_34 => gd (qk st_29 a_34 = 3) (bnd (fX8_makeOf (qP st_29 h0 0) (qI st_29 a_34 3) st_29) (fun r_39 st_37 => bnd (F h0 l1 (qI st_29 a_13 3) (qI st_29 a_13 4) r_39 (l5 + 1) st_37) (fun r_42 st_40 => pif (r_42 = 0) (some ((0 : Int32), st_40)) (fX3_scan_154 h0 F (fX3_scan_48 h0 F n) l1 l3 l4 l5 l6 l8 l10 r_24 st_40))))))))) (gd (qk st_25 h0 = 6) (bnd (fX3_refuse h0 r_27 l9 st_25) (fun r_47 st_45 => gd (narrow .boolean (.int r_47) = .int r_47) (some (r_47, st_45)))))))))))))) := rfl
set_option maxHeartbeats 1000000 in
theorem mo_X3_scan_48 (h0 : Nat) (F : Nat → (Option Nat) → Int32 → Int32 → (Option Nat) → Int32 → CS → Option (Int32 × CS))   (hFm : ∀ (h0 : Nat) (p0 : Option Nat) (p1 : Int32) (p2 : Int32) (p3 : Option Nat) (p4 : Int32) (st : CS) (r : Int32) (st' : CS), F h0 p0 p1 p2 p3 p4 st = some (r, st') → Ke st st') : ∀ (n : Nat) (l1 : Option Nat) (l3 : Int32) (l4 : Option Nat) (l5 : Int32) (l6 : Option Nat) (l7 : Int32) (l8 : Int32) (l9 : Int32) (l10 : Int32) (gs : CS) (r : Int32) (st' : CS), fX3_scan_48 h0 F n l1 l3 l4 l5 l6 l7 l8 l9 l10 gs = some (r, st') → Ke gs st' := by
  intro n
  induction n with
  | zero =>
    intro l1 l3 l4 l5 l6 l7 l8 l9 l10 gs r st' hf
    rw [fX3_scan_48_z] at hf
    cases hf
  | succ n ih =>
    intro l1 l3 l4 l5 l6 l7 l8 l9 l10 gs r st' hf
    rw [fX3_scan_48_s] at hf
    have hm : Ke gs gs := Ke.rf
    rcases pif_or hf with ⟨c_11, hf⟩ | ⟨c_11, hf⟩
    · obtain ⟨e1, e2⟩ := pr_some hf
      exact e2 ▸ hm
    · rcases pif_or hf with ⟨c_12, hf⟩ | ⟨c_12, hf⟩
      · obtain ⟨e1, e2⟩ := pr_some hf
        exact e2 ▸ hm
      · obtain ⟨a_13, ha_14, hf⟩ := ono_some hf
        obtain ⟨hk_15, hf⟩ := gd_some hf
        obtain ⟨st_16, hc_17, hf⟩ := bnv_some hf
        have hm := hm.tr (mo_X2_look a_13 l1 l9 l3 _ _ hc_17)
        obtain ⟨a_19, ha_20, hf⟩ := ono_some hf
        obtain ⟨hk_21, hf⟩ := gd_some hf
        obtain ⟨r_24, st_22, hc_23, hf⟩ := bnd_some hf
        have hm := hm.tr (mo_X1_knownAt a_19 (qI st_16 a_13 0) _ _ _ hc_23)
        obtain ⟨r_27, st_25, hc_26, hf⟩ := bnd_some hf
        have hm := hm.tr (mo_X3_faultOf l6 r_24 l1 l7 l8 _ _ _ hc_26)
        rcases pif_or hf with ⟨c_28, hf⟩ | ⟨c_28, hf⟩
        · obtain ⟨r_31, st_29, hc_30, hf⟩ := bnd_some hf
          have hm := hm.tr (mo_X3_isRec r_24 _ _ _ hc_30)
          rcases pif_or hf with ⟨c_32, hf⟩ | ⟨c_32, hf⟩
          · exact hm.tr (mo_X3_scan_154 h0 F (fX3_scan_48 h0 F n) ih hFm l1 l3 l4 l5 l6 l8 l10 r_24 st_29 _ _ hf)
          · obtain ⟨hk_33, hf⟩ := gd_some hf
            obtain ⟨a_34, ha_35, hf⟩ := ono_some hf
            obtain ⟨hk_36, hf⟩ := gd_some hf
            obtain ⟨r_39, st_37, hc_38, hf⟩ := bnd_some hf
            have hm := hm.tr (mo_X8_makeOf (qP st_29 h0 0) (qI st_29 a_34 3) _ _ _ hc_38)
            obtain ⟨r_42, st_40, hc_41, hf⟩ := bnd_some hf
            have hm := hm.tr (hFm h0 l1 (qI st_29 a_13 3) (qI st_29 a_13 4) r_39 (l5 + 1) _ _ _ hc_41)
            rcases pif_or hf with ⟨c_43, hf⟩ | ⟨c_43, hf⟩
            · obtain ⟨e1, e2⟩ := pr_some hf
              exact e2 ▸ hm
            · exact hm.tr (mo_X3_scan_154 h0 F (fX3_scan_48 h0 F n) ih hFm l1 l3 l4 l5 l6 l8 l10 r_24 st_40 _ _ hf)
        · obtain ⟨hk_44, hf⟩ := gd_some hf
          obtain ⟨r_47, st_45, hc_46, hf⟩ := bnd_some hf
          have hm := hm.tr (mo_X3_refuse h0 r_27 l9 _ _ _ hc_46)
          obtain ⟨hz, hf⟩ := gd_some hf
          obtain ⟨e1, e2⟩ := pr_some hf
          exact e2 ▸ hm
noncomputable def fX3_scan_20 (h0 : Nat) (F : Nat → (Option Nat) → Int32 → Int32 → (Option Nat) → Int32 → CS → Option (Int32 × CS))  (l2 : Int32) (gs : CS) : Option (Int32 × CS) := gd (qk gs h0 = 6) (bnd (fX3_refuse h0 5 l2 gs) (fun r_51 st_49 => gd (narrow .boolean (.int r_51) = .int r_51) (some (r_51, st_49))))
set_option maxHeartbeats 1000000 in
theorem mo_X3_scan_20 (h0 : Nat) (F : Nat → (Option Nat) → Int32 → Int32 → (Option Nat) → Int32 → CS → Option (Int32 × CS))   (hFm : ∀ (h0 : Nat) (p0 : Option Nat) (p1 : Int32) (p2 : Int32) (p3 : Option Nat) (p4 : Int32) (st : CS) (r : Int32) (st' : CS), F h0 p0 p1 p2 p3 p4 st = some (r, st') → Ke st st') (l2 : Int32) (gs : CS) (r : Int32) (st' : CS) (hf : fX3_scan_20 h0 F l2 gs = some (r, st')) : Ke gs st' := by
  unfold fX3_scan_20 at hf
  have hm : Ke gs gs := Ke.rf
  obtain ⟨hk_48, hf⟩ := gd_some hf
  obtain ⟨r_51, st_49, hc_50, hf⟩ := bnd_some hf
  have hm := hm.tr (mo_X3_refuse h0 5 l2 _ _ _ hc_50)
  obtain ⟨hz, hf⟩ := gd_some hf
  obtain ⟨e1, e2⟩ := pr_some hf
  exact e2 ▸ hm
noncomputable def fX3_scan (F : Nat → (Option Nat) → Int32 → Int32 → (Option Nat) → Int32 → CS → Option (Int32 × CS)) (h0 : Nat) (p0 : Option Nat) (p1 : Int32) (p2 : Int32) (p3 : Option Nat) (p4 : Int32) (st : CS) : Option (Int32 × CS) := pif (p3 = none) (fX3_scan_20 h0 F p1 st) (pif (p4 < 0) (fX3_scan_20 h0 F p1 st) (gd (qk st h0 = 6) (ono (qP st h0 1) (fun a_55 => gd (qk st a_55 = 25) (pif (p4 < (nI (ql st a_55))) (gd (vp_in p4 (ql st a_55)) (nam (qP st a_55 p4.toNatClampNeg) (fun v_60 => fX3_scan_48 h0 F fuel p0 p2 p3 p4 v_60 0 0 p1 0 st))) (fX3_scan_20 h0 F p1 st))))))
set_option maxHeartbeats 1000000 in
theorem mo_X3_scan (F : Nat → (Option Nat) → Int32 → Int32 → (Option Nat) → Int32 → CS → Option (Int32 × CS)) (hFm : ∀ (h0 : Nat) (p0 : Option Nat) (p1 : Int32) (p2 : Int32) (p3 : Option Nat) (p4 : Int32) (st : CS) (r : Int32) (st' : CS), F h0 p0 p1 p2 p3 p4 st = some (r, st') → Ke st st') (h0 : Nat) (p0 : Option Nat) (p1 : Int32) (p2 : Int32) (p3 : Option Nat) (p4 : Int32) (st : CS) (r : Int32) (st' : CS) (hf : fX3_scan F h0 p0 p1 p2 p3 p4 st = some (r, st')) : Ke st st' := by
  unfold fX3_scan at hf
  have hm : Ke st st := Ke.rf
  rcases pif_or hf with ⟨c_52, hf⟩ | ⟨c_52, hf⟩
  · exact hm.tr (mo_X3_scan_20 h0 F hFm p1 st _ _ hf)
  · rcases pif_or hf with ⟨c_53, hf⟩ | ⟨c_53, hf⟩
    · exact hm.tr (mo_X3_scan_20 h0 F hFm p1 st _ _ hf)
    · obtain ⟨hk_54, hf⟩ := gd_some hf
      obtain ⟨a_55, ha_56, hf⟩ := ono_some hf
      obtain ⟨hk_57, hf⟩ := gd_some hf
      rcases pif_or hf with ⟨c_58, hf⟩ | ⟨c_58, hf⟩
      · obtain ⟨g_59, hf⟩ := gd_some hf
        obtain ⟨v_60, ev_60, hf⟩ := nam_some hf
        exact hm.tr (mo_X3_scan_48 h0 F hFm fuel p0 p2 p3 p4 v_60 0 0 p1 0 st _ _ hf)
      · exact hm.tr (mo_X3_scan_20 h0 F hFm p1 st _ _ hf)
def wq_X3_scan : List Cond := .code yX3_scan cX3_scan 13 (some .boolean) :: (([.fieldLink RX3 17 "RecordBench$RecordReader" "pieces" "[LRecordBench$Piece;", .methodLink RX3 79 yX3_groupBit, .static yX3_groupBit, .initialized RX3, .methodLink RX3 43 yX2_look, .instanceMethod yX2_look, .selects RX2 yX2_look yX2_look, .initialized RX2, .methodLink RX3 50 yX1_knownAt, .instanceMethod yX1_knownAt, .selects RX1 yX1_knownAt yX1_knownAt, .initialized RX1, .methodLink RX3 56 yX3_faultOf, .static yX3_faultOf, .methodLink RX3 60 yX3_isRec, .static yX3_isRec, .fieldLink RX3 9 "RecordBench$RecordReader" "makes" "[LRecordBench$Make;", .static yX8_makeOf, .initialized RX8, .methodLink RX3 35 yX3_scan, .instanceMethod yX3_scan, .selects RX3 yX3_scan yX3_scan, .methodLink RX3 39 yX3_refuse, .instanceMethod yX3_refuse, .selects RX3 yX3_refuse yX3_refuse, .code yX3_groupBit cX3_groupBit 1 (some .int), .code yX2_look cX2_look 6 none, .fieldLink RX2 9 "RecordBench$Piece" "number" "I", .fieldLink RX2 15 "RecordBench$Piece" "withLength" "Z", .fieldLink RX2 19 "RecordBench$Piece" "raw" "J", .fieldLink RX2 23 "RecordBench$Piece" "body" "I", .fieldLink RX2 26 "RecordBench$Piece" "end" "I", .fieldLink RX2 29 "RecordBench$Piece" "fault" "I", .fieldLink RX2 32 "RecordBench$Piece" "pos" "I", .fieldLink RX2 35 "RecordBench$Piece" "broken" "Z", .methodLink RX2 42 yX2_place, .instanceMethod yX2_place, .selects RX2 yX2_place yX2_place, .methodLink RX2 38 yX2_takeVarint, .instanceMethod yX2_takeVarint, .selects RX2 yX2_takeVarint yX2_takeVarint, .code yX2_place cX2_place 6 none, .constantLong RX2 46 (30), .code yX2_takeVarint cX2_takeVarint 7 (some .long), .constantLong RX2 54 (127), .methodLink RX2 48 yX5_byteAt, .instanceMethod yX5_byteAt, .selects RX5 yX5_byteAt yX5_byteAt, .initialized RX5, .code yX5_byteAt cX5_byteAt 2 (some .int), .fieldLink RX5 21 "RecordBench$Row" "size" "I", .fieldLink RX5 15 "RecordBench$Row" "bytes" "[I", .code yX1_knownAt cX1_knownAt 3 (some (.object "RecordBench$Field")), .methodLink RX1 21 yX1_fieldAt, .instanceMethod yX1_fieldAt, .selects RX1 yX1_fieldAt yX1_fieldAt, .code yX1_fieldAt cX1_fieldAt 2 (some (.object "RecordBench$Field")), .fieldLink RX1 11 "RecordBench$Make" "fields" "[LRecordBench$Field;", .code yX3_faultOf cX3_faultOf 5 (some .int), .methodLink RX3 92 yX3_fits, .static yX3_fits, .methodLink RX3 88 yX0_hasLength, .instanceMethod yX0_hasLength, .selects RX0 yX0_hasLength yX0_hasLength, .initialized RX0, .code yX3_fits cX3_fits 3 (some .boolean), .methodLink RX3 96 yX0_isNumber, .instanceMethod yX0_isNumber, .selects RX0 yX0_isNumber yX0_isNumber, .methodLink RX3 110 yX5_isText, .instanceMethod yX5_isText, .selects RX5 yX5_isText yX5_isText, .methodLink RX3 99 yX2_asNumber, .instanceMethod yX2_asNumber, .selects RX2 yX2_asNumber yX2_asNumber, .methodLink RX3 103 yX0_holds, .instanceMethod yX0_holds, .selects RX0 yX0_holds yX0_holds, .code yX0_isNumber cX0_isNumber 1 (some .boolean), .fieldLink RX0 15 "RecordBench$Field" "kind" "I", .code yX5_isText cX5_isText 4 (some .boolean), .methodLink RX5 48 yX5_byteAt, .methodLink RX5 52 yX5_isTextByte, .static yX5_isTextByte, .code yX5_isTextByte cX5_isTextByte 1 (some .boolean), .code yX2_asNumber cX2_asNumber 1 (some .long), .code yX0_holds cX0_holds 3 (some .boolean), .constantLong RX0 37 (-128), .constantLong RX0 39 (127), .constantLong RX0 41 (-2147483648), .constantLong RX0 43 (2147483647), .code yX0_hasLength cX0_hasLength 1 (some .boolean), .code yX3_isRec cX3_isRec 1 (some .boolean), .code yX8_makeOf cX8_makeOf 2 (some (.object "RecordBench$Make")), .code yX3_refuse cX3_refuse 3 (some .boolean), .fieldLink RX3 22 "RecordBench$RecordReader" "fault" "I", .fieldLink RX3 26 "RecordBench$RecordReader" "place" "I"] : List Cond) ++ wsX30 ++ wsX20 ++ wsX00 ++ wsX50 ++ wsX10)
theorem gs_wq_X3_scan_wsX00 : GoodIn wq_X3_scan wsX00 := fun w h => ⟨List.mem_cons_of_mem _ (List.mem_append_left _ (List.mem_append_left _ (List.mem_append_right _ h))), (gt_wsX00 w h).2⟩
set_option maxRecDepth 20000 in
theorem gq_X3_scan_X3_groupBit_79 : GoodIn wq_X3_scan (va_wsS RX3 79 yX3_groupBit wq_X3_groupBit) := goodIn_app (goodIn_r _ [2, 3, 4] rfl rfl) (goodIn_ca (goodIn_r _ [26] rfl rfl) gs_wq_X3_scan_wsX00)
theorem gs_wq_X3_scan_wsX20 : GoodIn wq_X3_scan wsX20 := fun w h => ⟨List.mem_cons_of_mem _ (List.mem_append_left _ (List.mem_append_left _ (List.mem_append_left _ (List.mem_append_right _ h)))), (gt_wsX20 w h).2⟩
theorem gs_wq_X3_scan_wsX50 : GoodIn wq_X3_scan wsX50 := fun w h => ⟨List.mem_cons_of_mem _ (List.mem_append_left _ (List.mem_append_right _ h)), (gt_wsX50 w h).2⟩
set_option maxRecDepth 20000 in
theorem gq_X3_scan_X2_look_43 : GoodIn wq_X3_scan (wsV RX3 43 RX2 yX2_look wq_X2_look) := goodIn_app (goodIn_r _ [5, 6, 7, 8] rfl rfl) (goodIn_ca (goodIn_ca (goodIn_r _ [27, 28, 29, 30, 31, 32, 33, 34, 35, 36, 37, 38, 8, 39, 40, 41, 42, 43, 44, 45, 46, 47, 48, 49, 50, 51, 52] rfl rfl) gs_wq_X3_scan_wsX20) gs_wq_X3_scan_wsX50)
theorem gs_wq_X3_scan_wsX10 : GoodIn wq_X3_scan wsX10 := fun w h => ⟨List.mem_cons_of_mem _ (List.mem_append_right _ h), (gt_wsX10 w h).2⟩
set_option maxRecDepth 20000 in
theorem gq_X3_scan_X1_knownAt_50 : GoodIn wq_X3_scan (wsV RX3 50 RX1 yX1_knownAt wq_X1_knownAt) := goodIn_app (goodIn_r _ [9, 10, 11, 12] rfl rfl) (goodIn_ca (goodIn_ca (goodIn_r _ [53, 54, 55, 56, 12, 57, 58] rfl rfl) gs_wq_X3_scan_wsX00) gs_wq_X3_scan_wsX10)
set_option maxRecDepth 20000 in
theorem gq_X3_scan_X3_faultOf_56 : GoodIn wq_X3_scan (va_wsS RX3 56 yX3_faultOf wq_X3_faultOf) := goodIn_app (goodIn_r _ [13, 14, 4] rfl rfl) (goodIn_ca (goodIn_ca (goodIn_ca (goodIn_r _ [59, 2, 3, 4, 60, 61, 62, 63, 64, 65, 26, 66, 67, 68, 69, 70, 71, 72, 49, 73, 74, 75, 8, 76, 77, 78, 79, 80, 81, 82, 47, 48, 83, 84, 50, 51, 52, 85, 86, 30, 87, 88, 89, 90, 91, 92] rfl rfl) gs_wq_X3_scan_wsX20) gs_wq_X3_scan_wsX00) gs_wq_X3_scan_wsX50)
set_option maxRecDepth 20000 in
theorem gq_X3_scan_X3_isRec_60 : GoodIn wq_X3_scan (va_wsS RX3 60 yX3_isRec wq_X3_isRec) := goodIn_app (goodIn_r _ [15, 16, 4] rfl rfl) (goodIn_ca (goodIn_r _ [93] rfl rfl) gs_wq_X3_scan_wsX00)
set_option maxRecDepth 20000 in
theorem gq_X3_scan_X8_makeOf_75 : GoodIn wq_X3_scan (wq_X8_makeOf) := (goodIn_r _ [94] rfl rfl)
theorem gs_wq_X3_scan_wsX30 : GoodIn wq_X3_scan wsX30 := fun w h => ⟨List.mem_cons_of_mem _ (List.mem_append_left _ (List.mem_append_left _ (List.mem_append_left _ (List.mem_append_left _ (List.mem_append_right _ h))))), (gt_wsX30 w h).2⟩
set_option maxRecDepth 20000 in
theorem gq_X3_scan_X3_scan_35 : GoodIn wq_X3_scan (wsV RX3 35 RX3 yX3_scan wq_X3_scan) := goodIn_app (goodIn_r _ [20, 21, 22, 4] rfl rfl) (goodIn_ca (goodIn_ca (goodIn_ca (goodIn_ca (goodIn_ca (goodIn_r _ [0, 1, 2, 3, 4, 5, 6, 7, 8, 9, 10, 11, 12, 13, 14, 15, 16, 17, 18, 19, 20, 21, 22, 23, 24, 25, 26, 27, 28, 29, 30, 31, 32, 33, 34, 35, 36, 37, 38, 39, 40, 41, 42, 43, 44, 45, 46, 47, 48, 49, 50, 51, 52, 53, 54, 55, 56, 57, 58, 59, 60, 61, 62, 63, 64, 65, 66, 67, 68, 69, 70, 71, 72, 73, 74, 75, 76, 77, 78, 79, 80, 81, 82, 83, 84, 85, 86, 87, 88, 89, 90, 91, 92, 93, 94, 95, 96, 97] rfl rfl) gs_wq_X3_scan_wsX30) gs_wq_X3_scan_wsX20) gs_wq_X3_scan_wsX00) gs_wq_X3_scan_wsX50) gs_wq_X3_scan_wsX10)
set_option maxRecDepth 20000 in
theorem gq_X3_scan_X3_refuse_39 : GoodIn wq_X3_scan (wsV RX3 39 RX3 yX3_refuse wq_X3_refuse) := goodIn_app (goodIn_r _ [23, 24, 25, 4] rfl rfl) (goodIn_ca (goodIn_r _ [95, 96, 97] rfl rfl) gs_wq_X3_scan_wsX30)
set_option maxHeartbeats 4000000 in
set_option maxRecDepth 100000 in
theorem c_X3_scan (l : Launch) (dC : Nat → ClassId) (dI : Nat → Nat → Nat) (ka ad : Nat → Nat) (ct : Nat → ClassId) (F : Nat → (Option Nat) → Int32 → Int32 → (Option Nat) → Int32 → CS → Option (Int32 × CS)) (hFm : ∀ (h0 : Nat) (p0 : Option Nat) (p1 : Int32) (p2 : Int32) (p3 : Option Nat) (p4 : Int32) (st : CS) (r : Int32) (st' : CS), F h0 p0 p1 p2 p3 p4 st = some (r, st') → Ke st st') (fr lo : Nat) (hF : ∀ (h0 : Nat) (p0 : Option Nat) (p1 : Int32) (p2 : Int32) (p3 : Option Nat) (p4 : Int32) (st st' : CS) (r : Int32) (hf : F h0 p0 p1 p2 p3 p4 st = some (r, st')) (sz : Nat), Met l yX3_scan wq_X3_scan ({ frames := fr, cells := 0, slots := 0, locals := lo }) (va_Pc [.ref (ad h0), va_rf (Option.map ad p0), .int p1, .int p2, va_rf (Option.map ad p3), .int p4] (PrC (dC, dI) ct ka ad st sz)) (va_Qi (fun r' (_ : Unit) => r' = r) (fun _ => CB (dC, dI) ct ka ad st' (aC ad st sz)) (aC ad st sz)) 0 0 (aC ad st sz)) (h0 : Nat) (p0 : Option Nat) (p1 : Int32) (p2 : Int32) (p3 : Option Nat) (p4 : Int32) (st st' : CS) (r : Int32) (hf : fX3_scan F h0 p0 p1 p2 p3 p4 st = some (r, st')) (sz : Nat) : Met l yX3_scan wq_X3_scan ({ frames := fr + 4, cells := 0, slots := 0, locals := lo + 106 }) (va_Pc [.ref (ad h0), va_rf (Option.map ad p0), .int p1, .int p2, va_rf (Option.map ad p3), .int p4] (PrC (dC, dI) ct ka ad st sz)) (va_Qi (fun r' (_ : Unit) => r' = r) (fun _ => CB (dC, dI) ct ka ad st' (aC ad st sz)) (aC ad st sz)) 0 0 (aC ad st sz) := by
  refine Met.ofW (cc := cX3_scan) (maxL := 13) (ret := (some .boolean)) (by decide) rfl ?_
  intro p e s m args below meth c s₁ B hml hv
  obtain ⟨rfl, hsz, hw0, hK, hN, hZ, hC, hR, hL, hw1, hw2⟩ := hv
  have hx := B.exec
  have hb := B.bytes
  have hr := B.returns
  have hts := atoms_spec (ws := wq_X3_scan) B.pre
  have hown : s.vm.findClass RX3 = some m.cls := findClass_of_methodNamed B.named
  have iRX3 : ∀ w ∈ u_ws RX3 TX3 4, w ∈ wq_X3_scan := fun w h => List.mem_cons_of_mem _ (List.mem_append_left _ (List.mem_append_left _ (List.mem_append_left _ (List.mem_append_left _ (List.mem_append_right _ h)))))
  have iRX2 : ∀ w ∈ u_ws RX2 TX2 8, w ∈ wq_X3_scan := fun w h => List.mem_cons_of_mem _ (List.mem_append_left _ (List.mem_append_left _ (List.mem_append_left _ (List.mem_append_right _ h))))
  have iRX0 : ∀ w ∈ u_ws RX0 TX0 7, w ∈ wq_X3_scan := fun w h => List.mem_cons_of_mem _ (List.mem_append_left _ (List.mem_append_left _ (List.mem_append_right _ h)))
  subst hsz
  have hp : Cp (dC, dI) ka ad ct (aC ad st s.heap.size) s.heap st s.heap [] := ⟨fun i a b => ⟨hw0 i a b, Or.inl ⟨i, a, b, rfl⟩⟩, va_S.rf, hw1, hw2⟩
  generalize hAe : aC ad st s.heap.size = A at hp hZ hC ⊢
  have hA : ∀ q : Nat, s.heap.size ≤ q → A q := fun q h => by rw [← hAe]; exact Or.inr h
  have hl := lv_entry ([.ref (ad h0), va_rf (Option.map ad p0), .int p1, .int p2, va_rf (Option.map ad p3), .int p4]) (n := 13) (by simp [lg_sl, rf_cat, vc_i, vc_l, vc_r, vc_n])
  rw [lg_entry_eq]
  generalize (lg_sl ([.ref (ad h0), va_rf (Option.map ad p0), .int p1, .int p2, va_rf (Option.map ad p3), .int p4]) ++ List.replicate (13 - (lg_sl ([.ref (ad h0), va_rf (Option.map ad p0), .int p1, .int p2, va_rf (Option.map ad p3), .int p4])).length) Slot.unset).toArray = ls at hl ⊢
  have hl : lv_has ls 13 [(0, .ref (ad h0)), (1, va_rf (Option.map ad p0)), (2, .int p1), (3, .int p2), (4, va_rf (Option.map ad p3)), (5, .int p4)] := by simpa [lv_args, rf_cat, vc_i, vc_l, vc_r, vc_n] using hl
  refine W_lp (fun n48 (u : (Option Nat) × Int32 × (Option Nat) × Int32 × (Option Nat) × Int32 × Int32 × Int32 × Int32 × CS) H locs ls => match u with | (l1, l3, l4, l5, l6, l7, l8, l9, l10, gs) => fX3_scan_48 h0 F n48 l1 l3 l4 l5 l6 l7 l8 l9 l10 gs = some (r, st') ∧ Cp (dC, dI) ka ad ct A s.heap gs H locs ∧ lv_has ls 13 [(0, .ref (ad h0)), (1, va_rf (Option.map ad l1)), (3, .int l3), (4, va_rf (Option.map ad l4)), (5, .int l5), (6, va_rf (Option.map ad l6)), (7, .int l7), (8, .int l8), (9, .int l9), (10, .int l10)]) (fun (u : (Option Nat) × Int32 × (Option Nat) × Int32 × (Option Nat) × Int32 × Int32 × Int32 × Int32 × CS) ls => match u with | (l1, l3, l4, l5, l6, l7, l8, l9, l10, gs) => F0 m 48 ls []) ?_ ?_ (fun J48 => ?_)
  · intro u H locs ls hu
    obtain ⟨l1, l3, l4, l5, l6, l7, l8, l9, l10, gs⟩ := u
    obtain ⟨hf, hp, hl⟩ := hu
    rw [fX3_scan_48_z] at hf
    cases hf
  · intro n48 ih48 u H locs ls hu
    obtain ⟨l1, l3, l4, l5, l6, l7, l8, l9, l10, gs⟩ := u
    obtain ⟨hf, hp, hl⟩ := hu
    show W p l e _ s m _ below meth c _ _ _ _ _ (F0 m 48 ls [])
    refine W_blk (fun (u : (Option Nat) × Int32 × (Option Nat) × Int32 × (Option Nat) × Int32 × Int32 × (Option Nat) × CS) H locs ls => match u with | (l1, l3, l4, l5, l6, l8, l10, l11, gs) => fX3_scan_154 h0 F (fX3_scan_48 h0 F n48) l1 l3 l4 l5 l6 l8 l10 l11 gs = some (r, st') ∧ Cp (dC, dI) ka ad ct A s.heap gs H locs ∧ lv_has ls 13 [(0, .ref (ad h0)), (1, va_rf (Option.map ad l1)), (3, .int l3), (4, va_rf (Option.map ad l4)), (5, .int l5), (6, va_rf (Option.map ad l6)), (8, .int l8), (10, .int l10), (11, va_rf (Option.map ad l11))]) (fun (u : (Option Nat) × Int32 × (Option Nat) × Int32 × (Option Nat) × Int32 × Int32 × (Option Nat) × CS) ls => match u with | (l1, l3, l4, l5, l6, l8, l10, l11, gs) => F0 m 154 ls []) ?_ (fun J154 => ?_)
    · intro u H locs ls hu
      obtain ⟨l1, l3, l4, l5, l6, l8, l10, l11, gs⟩ := u
      obtain ⟨hf, hp, hl⟩ := hu
      show W p l e _ s m _ below meth c _ _ _ _ _ (F0 m 154 ls [])
      unfold fX3_scan_154 at hf
      refine lv_iload hx hb dX3_scan_154 (lv_at hl 6 rfl) ?_
      refine o_aload hx hb dX3_scan_156 (lv_at hl 8 rfl) ?_
      obtain ⟨r_3, st_1, hc_2, hf⟩ := bnd_some hf
      refine q_ci hp hA (va_runS (As := [va_rf (Option.map ad l11)]) (rest := [.int l8]) ⟨hx, hb, hml, hown, hts⟩ (c_X3_groupBit l dC dI ka ad ct l11 _ _ _ hc_2 _) (va_cwS 1 hts gq_X3_scan_X3_groupBit_79 rfl rfl rfl (by decide +kernel) ⟨by show 0 + 1 ≤ fr + 4; omega, by show 8 + (1 + 11) + 0 ≤ lo + 106; omega⟩) ⟨PrC.blind _, q_pre hp hK hN hZ hC hR hL hA⟩ rfl rfl hl.1 rfl (lv_room (Nat.le_of_ble_eq_true rfl)) dX3_scan_158 ⟨Nat.le_of_ble_eq_true rfl, Nat.le_of_ble_eq_true rfl⟩) (fun H locs hp => ?_)
      refine lv_ior hx hb dX3_scan_161 ?_
      obtain ⟨v_4, ev_4, hf⟩ := nam_some hf
      refine W_toi (y := v_4) ev_4.symm ?_
      refine lv_istore (i := 8) (lv' := [(8, .int v_4), (0, .ref (ad h0)), (1, va_rf (Option.map ad l1)), (3, .int l3), (4, va_rf (Option.map ad l4)), (5, .int l5), (6, va_rf (Option.map ad l6)), (10, .int l10), (11, va_rf (Option.map ad l11))]) hx hb dX3_scan_162 hl (by decide) rfl (fun ls hl => ?_)
      refine o_aload hx hb dX3_scan_164 (lv_at hl 6 rfl) ?_
      obtain ⟨a_5, ha_6, hf⟩ := ono_some hf
      refine o_at ha_6 ?_
      obtain ⟨hk_7, hf⟩ := gd_some hf
      refine q_gi (ci := 4) (C := RX2) (T := TX2) (N := 8) (k := 0) hx hb hts iRX2 hown hK hp hk_7 (by decide) rfl rfl (by decide) rfl (Or.inr ⟨_, va_Nw.use rfl (hN.1 (.fieldLinkNest RX3 47 "RecordBench$Piece" "number" "I" "RecordBench") (by decide +kernel))⟩) (fun _ h9 => h9) dX3_scan_166 ?_
      obtain ⟨v_8, ev_8, hf⟩ := nam_some hf
      refine W_toi (y := v_8) ev_8.symm ?_
      refine lv_istore (i := 7) (lv' := [(7, .int v_8), (8, .int v_4), (0, .ref (ad h0)), (1, va_rf (Option.map ad l1)), (3, .int l3), (4, va_rf (Option.map ad l4)), (5, .int l5), (6, va_rf (Option.map ad l6)), (10, .int l10), (11, va_rf (Option.map ad l11))]) hx hb dX3_scan_169 hl (by decide) (by simp [rf_cat, vc_i, vc_l, vc_r, vc_n]) (fun ls hl => ?_)
      refine o_aload hx hb dX3_scan_171 (lv_at hl 7 rfl) ?_
      refine o_at ha_6 ?_
      refine q_gi (ci := 4) (C := RX2) (T := TX2) (N := 8) (k := 4) hx hb hts iRX2 hown hK hp hk_7 (by decide) rfl rfl (by decide) rfl (Or.inr ⟨_, va_Nw.use rfl (hN.1 (.fieldLinkNest RX3 67 "RecordBench$Piece" "end" "I" "RecordBench") (by decide +kernel))⟩) (fun _ h9 => h9) dX3_scan_173 ?_
      obtain ⟨v_9, ev_9, hf⟩ := nam_some hf
      refine W_toi (y := v_9) ev_9.symm ?_
      refine lv_istore (i := 9) (lv' := [(9, .int v_9), (7, .int v_8), (8, .int v_4), (0, .ref (ad h0)), (1, va_rf (Option.map ad l1)), (3, .int l3), (4, va_rf (Option.map ad l4)), (5, .int l5), (6, va_rf (Option.map ad l6)), (10, .int l10), (11, va_rf (Option.map ad l11))]) hx hb dX3_scan_176 hl (by decide) rfl (fun ls hl => ?_)
      obtain ⟨v_10, ev_10, hf⟩ := nam_some hf
      refine lv_iinc (v := v_10) (lv' := [(10, .int v_10), (9, .int v_9), (7, .int v_8), (8, .int v_4), (0, .ref (ad h0)), (1, va_rf (Option.map ad l1)), (3, .int l3), (4, va_rf (Option.map ad l4)), (5, .int l5), (6, va_rf (Option.map ad l6)), (11, va_rf (Option.map ad l11))]) hx hb dX3_scan_178 hl (k := 9) rfl ev_10.symm (by decide) rfl (fun ls hl => ?_)
      refine lv_goto (tgt := 48) hx hb dX3_scan_181 (by decide) ?_
      exact ih48 (l1, l3, l4, l5, l6, v_8, v_4, v_9, v_10, st_1) _ _ _ ⟨hf, hp, (lv_sub hl [4, 5, 6, 7, 8, 9, 2, 3, 1, 0] rfl)⟩
    rw [fX3_scan_48_s] at hf
    refine lv_iload hx hb dX3_scan_48 (lv_at hl 9 rfl) ?_
    refine lv_bipush (v := 120) hx hb dX3_scan_50 (by decide) ?_
    refine lv_icmp_ge (tgt := 184) hx hb dX3_scan_52 (by decide) (fun c_11 => ?_) (fun c_11 => ?_)
    · have hf := pif_t c_11 hf
      refine lv_iconst (v := 1) hx hb dX3_scan_184 (by decide) ?_
      obtain ⟨e1, e2⟩ := pr_some hf
      exact W.zret (v := 1) hx hb hr rfl (fun t ht hW => ⟨⟨1, (), rfl, e1, Cp.end e2 hp ht⟩, hp.2.1.F ht⟩) hp.2.1.2.2 dX3_scan_185
    · have hf := pif_f c_11 hf
      refine lv_iload hx hb dX3_scan_55 (lv_at hl 8 rfl) ?_
      refine lv_iload_n hx hb dX3_scan_57 rfl (lv_at hl 2 rfl) ?_
      refine lv_icmp_ge (tgt := 184) hx hb dX3_scan_58 (by decide) (fun c_12 => ?_) (fun c_12 => ?_)
      · have hf := pif_t c_12 hf
        refine lv_iconst (v := 1) hx hb dX3_scan_184 (by decide) ?_
        obtain ⟨e1, e2⟩ := pr_some hf
        exact W.zret (v := 1) hx hb hr rfl (fun t ht hW => ⟨⟨1, (), rfl, e1, Cp.end e2 hp ht⟩, hp.2.1.F ht⟩) hp.2.1.2.2 dX3_scan_185
      · have hf := pif_f c_12 hf
        refine o_aload hx hb dX3_scan_61 (lv_at hl 5 rfl) ?_
        refine o_aload_n hx hb dX3_scan_63 rfl (lv_at hl 1 rfl) ?_
        refine lv_iload hx hb dX3_scan_64 (lv_at hl 8 rfl) ?_
        refine lv_iload_n hx hb dX3_scan_66 rfl (lv_at hl 2 rfl) ?_
        obtain ⟨a_13, ha_14, hf⟩ := ono_some hf
        refine o_at3 ha_14 ?_
        obtain ⟨hk_15, hf⟩ := gd_some hf
        obtain ⟨st_16, hc_17, hf⟩ := bnv_some hf
        refine q_cv hp hA (va_runV (As := [va_rf (Option.map ad l1), .int l9, .int l3]) (rest := []) ⟨hx, hb, hml, hown, hts⟩ (c_X2_look l dC dI ka ad ct a_13 l1 l9 l3 _ _ hc_17 _) (cwV 3 hts gq_X3_scan_X2_look_43 rfl rfl rfl (by decide +kernel) ⟨by show 2 + 1 ≤ fr + 4; omega, by show 8 + (6 + 11) + 55 ≤ lo + 106; omega⟩) ⟨PrC.blind _, q_rv4 hK hp hC hk_15, q_pre hp hK hN hZ hC hR hL hA⟩ rfl rfl hl.1 rfl (lv_room (Nat.le_of_ble_eq_true rfl)) dX3_scan_67 ⟨Nat.le_of_ble_eq_true rfl, Nat.le_of_ble_eq_true rfl⟩) (fun H locs hp => ?_)
        have hk_15 : qk st_16 a_13 = 5 := by rw [(mo_X2_look a_13 l1 l9 l3 _ _ hc_17).2.2.1]; exact hk_15
        refine o_aload hx hb dX3_scan_70 (lv_at hl 3 rfl) ?_
        refine o_aload hx hb dX3_scan_72 (lv_at hl 5 rfl) ?_
        refine o_at ha_14 ?_
        refine q_gi (ci := 4) (C := RX2) (T := TX2) (N := 8) (k := 0) hx hb hts iRX2 hown hK hp hk_15 (by decide) rfl rfl (by decide) rfl (Or.inr ⟨_, va_Nw.use rfl (hN.1 (.fieldLinkNest RX3 47 "RecordBench$Piece" "number" "I" "RecordBench") (by decide +kernel))⟩) (fun _ h9 => h9) dX3_scan_74 ?_
        obtain ⟨a_19, ha_20, hf⟩ := ono_some hf
        refine o_at1 ha_20 ?_
        obtain ⟨hk_21, hf⟩ := gd_some hf
        obtain ⟨r_24, st_22, hc_23, hf⟩ := bnd_some hf
        refine q_cq hp hA (va_runV (As := [.int (qI st_16 a_13 0)]) (rest := []) ⟨hx, hb, hml, hown, hts⟩ (c_X1_knownAt l dC dI ka ad ct a_19 (qI st_16 a_13 0) _ _ _ hc_23 _) (cwV 1 hts gq_X3_scan_X1_knownAt_50 rfl rfl rfl (by decide +kernel) ⟨by show 1 + 1 ≤ fr + 4; omega, by show 8 + (3 + 11) + 25 ≤ lo + 106; omega⟩) ⟨PrC.blind _, q_rv3 hK hp hC hk_21, q_pre hp hK hN hZ hC hR hL hA⟩ rfl rfl hl.1 rfl (lv_room (Nat.le_of_ble_eq_true rfl)) dX3_scan_77 ⟨Nat.le_of_ble_eq_true rfl, Nat.le_of_ble_eq_true rfl⟩) (fun H locs hp => ?_)
        have hk_15 : qk st_22 a_13 = 5 := by rw [(mo_X1_knownAt a_19 (qI st_16 a_13 0) _ _ _ hc_23).2.2.1]; exact hk_15
        have hk_21 : qk st_22 a_19 = 4 := by rw [(mo_X1_knownAt a_19 (qI st_16 a_13 0) _ _ _ hc_23).2.2.1]; exact hk_21
        refine o_astore (i := 11) (lv' := [(11, va_rf (Option.map ad r_24)), (0, .ref (ad h0)), (1, va_rf (Option.map ad l1)), (3, .int l3), (4, va_rf (Option.map ad l4)), (5, .int l5), (6, va_rf (Option.map ad l6)), (7, .int l7), (8, .int l8), (9, .int l9), (10, .int l10)]) hx hb dX3_scan_80 hl (by decide) rfl (fun ls hl => ?_)
        refine o_aload hx hb dX3_scan_82 (lv_at hl 6 rfl) ?_
        refine o_aload hx hb dX3_scan_84 (lv_at hl 0 rfl) ?_
        refine o_aload_n hx hb dX3_scan_86 rfl (lv_at hl 2 rfl) ?_
        refine lv_iload hx hb dX3_scan_87 (lv_at hl 7 rfl) ?_
        refine lv_iload hx hb dX3_scan_89 (lv_at hl 8 rfl) ?_
        obtain ⟨r_27, st_25, hc_26, hf⟩ := bnd_some hf
        refine q_ci hp hA (va_runS (As := [va_rf (Option.map ad l6), va_rf (Option.map ad r_24), va_rf (Option.map ad l1), .int l7, .int l8]) (rest := []) ⟨hx, hb, hml, hown, hts⟩ (c_X3_faultOf l dC dI ka ad ct l6 r_24 l1 l7 l8 _ _ _ hc_26 _) (va_cwS 5 hts gq_X3_scan_X3_faultOf_56 rfl rfl rfl (by decide +kernel) ⟨by show 3 + 1 ≤ fr + 4; omega, by show 8 + (5 + 11) + 78 ≤ lo + 106; omega⟩) ⟨PrC.blind _, q_pre hp hK hN hZ hC hR hL hA⟩ rfl rfl hl.1 rfl (lv_room (Nat.le_of_ble_eq_true rfl)) dX3_scan_91 ⟨Nat.le_of_ble_eq_true rfl, Nat.le_of_ble_eq_true rfl⟩) (fun H locs hp => ?_)
        have hk_15 : qk st_25 a_13 = 5 := by rw [(mo_X3_faultOf l6 r_24 l1 l7 l8 _ _ _ hc_26).2.2.1]; exact hk_15
        have hk_21 : qk st_25 a_19 = 4 := by rw [(mo_X3_faultOf l6 r_24 l1 l7 l8 _ _ _ hc_26).2.2.1]; exact hk_21
        refine lv_istore (i := 12) (lv' := [(12, .int r_27), (11, va_rf (Option.map ad r_24)), (0, .ref (ad h0)), (1, va_rf (Option.map ad l1)), (3, .int l3), (4, va_rf (Option.map ad l4)), (5, .int l5), (6, va_rf (Option.map ad l6)), (7, .int l7), (8, .int l8), (9, .int l9), (10, .int l10)]) hx hb dX3_scan_94 hl (by decide) (by simp [rf_cat, vc_i, vc_l, vc_r, vc_n]) (fun ls hl => ?_)
        refine lv_iload hx hb dX3_scan_96 (lv_at hl 0 rfl) ?_
        refine lv_if_eq (tgt := 110) hx hb dX3_scan_98 (by decide) (fun c_28 => ?_) (fun c_28 => ?_)
        · have hf := pif_t c_28 hf
          refine o_aload hx hb dX3_scan_110 (lv_at hl 1 rfl) ?_
          obtain ⟨r_31, st_29, hc_30, hf⟩ := bnd_some hf
          refine q_ci hp hA (va_runS (As := [va_rf (Option.map ad r_24)]) (rest := []) ⟨hx, hb, hml, hown, hts⟩ (c_X3_isRec l dC dI ka ad ct r_24 _ _ _ hc_30 _) (va_cwS 1 hts gq_X3_scan_X3_isRec_60 rfl rfl rfl (by decide +kernel) ⟨by show 0 + 1 ≤ fr + 4; omega, by show 8 + (1 + 11) + 0 ≤ lo + 106; omega⟩) ⟨PrC.blind _, q_pre hp hK hN hZ hC hR hL hA⟩ rfl rfl hl.1 rfl (lv_room (Nat.le_of_ble_eq_true rfl)) dX3_scan_112 ⟨Nat.le_of_ble_eq_true rfl, Nat.le_of_ble_eq_true rfl⟩) (fun H locs hp => ?_)
          have hk_15 : qk st_29 a_13 = 5 := by rw [(mo_X3_isRec r_24 _ _ _ hc_30).2.2.1]; exact hk_15
          have hk_21 : qk st_29 a_19 = 4 := by rw [(mo_X3_isRec r_24 _ _ _ hc_30).2.2.1]; exact hk_21
          refine lv_if_eq (tgt := 154) hx hb dX3_scan_115 (by decide) (fun c_32 => ?_) (fun c_32 => ?_)
          · have hf := pif_t c_32 hf
            exact J154 (l1, l3, l4, l5, l6, l8, l10, r_24, st_29) _ _ _ ⟨hf, hp, (lv_sub hl [2, 3, 4, 5, 6, 7, 9, 11, 1] rfl)⟩
          · have hf := pif_f c_32 hf
            refine lv_aload_n hx hb dX3_scan_118 rfl (lv_at hl 2 rfl) ?_
            refine o_aload_n hx hb dX3_scan_119 rfl (lv_at hl 3 rfl) ?_
            refine o_aload hx hb dX3_scan_120 (lv_at hl 7 rfl) ?_
            refine o_at ha_14 ?_
            refine q_gi (ci := 4) (C := RX2) (T := TX2) (N := 8) (k := 3) hx hb hts iRX2 hown hK hp hk_15 (by decide) rfl rfl (by decide) rfl (Or.inr ⟨_, va_Nw.use rfl (hN.1 (.fieldLinkNest RX3 64 "RecordBench$Piece" "body" "I" "RecordBench") (by decide +kernel))⟩) (fun _ h9 => h9) dX3_scan_122 ?_
            refine o_aload hx hb dX3_scan_125 (lv_at hl 7 rfl) ?_
            refine o_at ha_14 ?_
            refine q_gi (ci := 4) (C := RX2) (T := TX2) (N := 8) (k := 4) hx hb hts iRX2 hown hK hp hk_15 (by decide) rfl rfl (by decide) rfl (Or.inr ⟨_, va_Nw.use rfl (hN.1 (.fieldLinkNest RX3 67 "RecordBench$Piece" "end" "I" "RecordBench") (by decide +kernel))⟩) (fun _ h9 => h9) dX3_scan_127 ?_
            refine lv_aload_n hx hb dX3_scan_130 rfl (lv_at hl 2 rfl) ?_
            obtain ⟨hk_33, hf⟩ := gd_some hf
            refine q_gp (ci := 5) (C := RX3) (T := TX3) (N := 4) (k := 0) hx hb hts iRX3 hown hK hp hk_33 (by decide) rfl rfl (by decide) rfl (Or.inl (hts (.fieldLink RX3 9 "RecordBench$RecordReader" "makes" "[LRecordBench$Make;") (by decide +kernel))) (fun _ h9 => h9) dX3_scan_131 ?_
            refine o_aload hx hb dX3_scan_134 (lv_at hl 1 rfl) ?_
            obtain ⟨a_34, ha_35, hf⟩ := ono_some hf
            refine o_at ha_35 ?_
            obtain ⟨hk_36, hf⟩ := gd_some hf
            refine q_gi (ci := 2) (C := RX0) (T := TX0) (N := 7) (k := 3) hx hb hts iRX0 hown hK hp hk_36 (by decide) rfl rfl (by decide) rfl (Or.inr ⟨_, va_Nw.use rfl (hN.1 (.fieldLinkNest RX3 70 "RecordBench$Field" "rec" "I" "RecordBench") (by decide +kernel))⟩) (fun _ h9 => h9) dX3_scan_136 ?_
            obtain ⟨r_39, st_37, hc_38, hf⟩ := bnd_some hf
            refine q_cq hp hA (va_runSN (As := [va_rf (Option.map ad (qP st_29 h0 0)), .int (qI st_29 a_34 3)]) (rest := [.int (qI st_29 a_13 4), .int (qI st_29 a_13 3), va_rf (Option.map ad l1), .ref (ad h0)]) ⟨hx, hb, hml, hown, hts⟩ (c_X8_makeOf l dC dI ka ad ct (qP st_29 h0 0) (qI st_29 a_34 3) _ _ _ hc_38 _) ⟨va_cnB 2 hts gq_X3_scan_X8_makeOf_75 rfl rfl rfl (hN.1 (.methodLinkNest RX3 75 yX8_makeOf "RecordBench") (by decide +kernel)) (hts (.initialized RX8) (by decide +kernel)) (by decide +kernel) ⟨by show 0 + 1 ≤ fr + 4; omega, by show 8 + (2 + 11) + 0 ≤ lo + 106; omega⟩, (hts (.static yX8_makeOf) (by decide +kernel)), trivial⟩ ⟨PrC.blind _, q_pre hp hK hN hZ hC hR hL hA⟩ rfl rfl hl.1 rfl (lv_room (by simp [rf_cat, vc_i, vc_l, vc_r, vc_n])) dX3_scan_139 ⟨Nat.le_of_ble_eq_true rfl, Nat.le_of_ble_eq_true rfl⟩) (fun H locs hp => ?_)
            have hk_15 : qk st_37 a_13 = 5 := by rw [(mo_X8_makeOf (qP st_29 h0 0) (qI st_29 a_34 3) _ _ _ hc_38).2.2.1]; exact hk_15
            have hk_21 : qk st_37 a_19 = 4 := by rw [(mo_X8_makeOf (qP st_29 h0 0) (qI st_29 a_34 3) _ _ _ hc_38).2.2.1]; exact hk_21
            have hk_33 : qk st_37 h0 = 6 := by rw [(mo_X8_makeOf (qP st_29 h0 0) (qI st_29 a_34 3) _ _ _ hc_38).2.2.1]; exact hk_33
            have hk_36 : qk st_37 a_34 = 3 := by rw [(mo_X8_makeOf (qP st_29 h0 0) (qI st_29 a_34 3) _ _ _ hc_38).2.2.1]; exact hk_36
            refine lv_iload hx hb dX3_scan_142 (lv_at hl 6 rfl) ?_
            refine lv_iconst (v := 1) hx hb dX3_scan_144 (by decide) ?_
            refine lv_iadd hx hb dX3_scan_145 ?_
            obtain ⟨r_42, st_40, hc_41, hf⟩ := bnd_some hf
            refine q_ci hp hA (va_runV (As := [va_rf (Option.map ad l1), .int (qI st_29 a_13 3), .int (qI st_29 a_13 4), va_rf (Option.map ad r_39), .int (l5 + 1)]) (rest := []) ⟨hx, hb, hml, hown, hts⟩ (hF h0 l1 (qI st_29 a_13 3) (qI st_29 a_13 4) r_39 (l5 + 1) _ _ _ hc_41 _) (cwV 5 hts gq_X3_scan_X3_scan_35 rfl rfl rfl (by decide +kernel) ⟨by show fr + 1 ≤ fr + 4; omega, by show 8 + (13 + 11) + lo ≤ lo + 106; omega⟩) ⟨PrC.blind _, q_rv5 hK hp hC hk_33, q_pre hp hK hN hZ hC hR hL hA⟩ rfl rfl hl.1 rfl (lv_room (Nat.le_of_ble_eq_true rfl)) dX3_scan_146 ⟨Nat.le_of_ble_eq_true rfl, Nat.le_of_ble_eq_true rfl⟩) (fun H locs hp => ?_)
            have hk_15 : qk st_40 a_13 = 5 := by rw [(hFm h0 l1 (qI st_29 a_13 3) (qI st_29 a_13 4) r_39 (l5 + 1) _ _ _ hc_41).2.2.1]; exact hk_15
            have hk_21 : qk st_40 a_19 = 4 := by rw [(hFm h0 l1 (qI st_29 a_13 3) (qI st_29 a_13 4) r_39 (l5 + 1) _ _ _ hc_41).2.2.1]; exact hk_21
            have hk_33 : qk st_40 h0 = 6 := by rw [(hFm h0 l1 (qI st_29 a_13 3) (qI st_29 a_13 4) r_39 (l5 + 1) _ _ _ hc_41).2.2.1]; exact hk_33
            have hk_36 : qk st_40 a_34 = 3 := by rw [(hFm h0 l1 (qI st_29 a_13 3) (qI st_29 a_13 4) r_39 (l5 + 1) _ _ _ hc_41).2.2.1]; exact hk_36
            refine lv_if_ne (tgt := 154) hx hb dX3_scan_149 (by decide) (fun c_43 => ?_) (fun c_43 => ?_)
            · have hf := pif_f c_43 hf
              exact J154 (l1, l3, l4, l5, l6, l8, l10, r_24, st_40) _ _ _ ⟨hf, hp, (lv_sub hl [2, 3, 4, 5, 6, 7, 9, 11, 1] rfl)⟩
            · have hf := pif_t c_43 hf
              refine lv_iconst (v := 0) hx hb dX3_scan_152 (by decide) ?_
              obtain ⟨e1, e2⟩ := pr_some hf
              exact W.zret (v := 0) hx hb hr rfl (fun t ht hW => ⟨⟨0, (), rfl, e1, Cp.end e2 hp ht⟩, hp.2.1.F ht⟩) hp.2.1.2.2 dX3_scan_153
        · have hf := pif_f c_28 hf
          refine lv_aload_n hx hb dX3_scan_101 rfl (lv_at hl 2 rfl) ?_
          refine lv_iload hx hb dX3_scan_102 (lv_at hl 0 rfl) ?_
          refine lv_iload hx hb dX3_scan_104 (lv_at hl 10 rfl) ?_
          obtain ⟨hk_44, hf⟩ := gd_some hf
          obtain ⟨r_47, st_45, hc_46, hf⟩ := bnd_some hf
          refine q_ci hp hA (va_runV (As := [.int r_27, .int l9]) (rest := []) ⟨hx, hb, hml, hown, hts⟩ (c_X3_refuse l dC dI ka ad ct h0 r_27 l9 _ _ _ hc_46 _) (cwV 2 hts gq_X3_scan_X3_refuse_39 rfl rfl rfl (by decide +kernel) ⟨by show 0 + 1 ≤ fr + 4; omega, by show 8 + (3 + 11) + 0 ≤ lo + 106; omega⟩) ⟨PrC.blind _, q_rv5 hK hp hC hk_44, q_pre hp hK hN hZ hC hR hL hA⟩ rfl rfl hl.1 rfl (lv_room (Nat.le_of_ble_eq_true rfl)) dX3_scan_106 ⟨Nat.le_of_ble_eq_true rfl, Nat.le_of_ble_eq_true rfl⟩) (fun H locs hp => ?_)
          have hk_15 : qk st_45 a_13 = 5 := by rw [(mo_X3_refuse h0 r_27 l9 _ _ _ hc_46).2.2.1]; exact hk_15
          have hk_21 : qk st_45 a_19 = 4 := by rw [(mo_X3_refuse h0 r_27 l9 _ _ _ hc_46).2.2.1]; exact hk_21
          have hk_44 : qk st_45 h0 = 6 := by rw [(mo_X3_refuse h0 r_27 l9 _ _ _ hc_46).2.2.1]; exact hk_44
          obtain ⟨hz, hf⟩ := gd_some hf
          obtain ⟨e1, e2⟩ := pr_some hf
          exact W.zret (v := r_47) hx hb hr hz (fun t ht hW => ⟨⟨r_47, (), rfl, e1, Cp.end e2 hp ht⟩, hp.2.1.F ht⟩) hp.2.1.2.2 dX3_scan_109
  refine W_blk (fun (u : Int32 × CS) H locs ls => match u with | (l2, gs) => fX3_scan_20 h0 F l2 gs = some (r, st') ∧ Cp (dC, dI) ka ad ct A s.heap gs H locs ∧ lv_has ls 13 [(0, .ref (ad h0)), (2, .int l2)]) (fun (u : Int32 × CS) ls => match u with | (l2, gs) => F0 m 20 ls []) ?_ (fun J20 => ?_)
  · intro u H locs ls hu
    obtain ⟨l2, gs⟩ := u
    obtain ⟨hf, hp, hl⟩ := hu
    show W p l e _ s m _ below meth c _ _ _ _ _ (F0 m 20 ls [])
    unfold fX3_scan_20 at hf
    refine lv_aload_n hx hb dX3_scan_20 rfl (lv_at hl 0 rfl) ?_
    refine lv_iconst (v := 5) hx hb dX3_scan_21 (by decide) ?_
    refine lv_iload_n hx hb dX3_scan_22 rfl (lv_at hl 1 rfl) ?_
    obtain ⟨hk_48, hf⟩ := gd_some hf
    obtain ⟨r_51, st_49, hc_50, hf⟩ := bnd_some hf
    refine q_ci hp hA (va_runV (As := [.int 5, .int l2]) (rest := []) ⟨hx, hb, hml, hown, hts⟩ (c_X3_refuse l dC dI ka ad ct h0 5 l2 _ _ _ hc_50 _) (cwV 2 hts gq_X3_scan_X3_refuse_39 rfl rfl rfl (by decide +kernel) ⟨by show 0 + 1 ≤ fr + 4; omega, by show 8 + (3 + 11) + 0 ≤ lo + 106; omega⟩) ⟨PrC.blind _, q_rv5 hK hp hC hk_48, q_pre hp hK hN hZ hC hR hL hA⟩ rfl rfl hl.1 rfl (lv_room (Nat.le_of_ble_eq_true rfl)) dX3_scan_23 ⟨Nat.le_of_ble_eq_true rfl, Nat.le_of_ble_eq_true rfl⟩) (fun H locs hp => ?_)
    have hk_48 : qk st_49 h0 = 6 := by rw [(mo_X3_refuse h0 5 l2 _ _ _ hc_50).2.2.1]; exact hk_48
    obtain ⟨hz, hf⟩ := gd_some hf
    obtain ⟨e1, e2⟩ := pr_some hf
    exact W.zret (v := r_51) hx hb hr hz (fun t ht hW => ⟨⟨r_51, (), rfl, e1, Cp.end e2 hp ht⟩, hp.2.1.F ht⟩) hp.2.1.2.2 dX3_scan_26
  unfold fX3_scan at hf
  refine o_aload hx hb dX3_scan_0 (lv_at hl 4 rfl) ?_
  refine o_ifnull (tgt := 20) hx hb dX3_scan_2 (by decide) (fun c_52 => ?_) (fun c_52 => ?_)
  · have hf := pif_t c_52 hf
    exact J20 (p1, st) _ _ _ ⟨hf, hp, (lv_sub hl [0, 2] rfl)⟩
  · have hf := pif_f c_52 hf
    refine lv_iload hx hb dX3_scan_5 (lv_at hl 5 rfl) ?_
    refine lv_if_lt (tgt := 20) hx hb dX3_scan_7 (by decide) (fun c_53 => ?_) (fun c_53 => ?_)
    · have hf := pif_t c_53 hf
      exact J20 (p1, st) _ _ _ ⟨hf, hp, (lv_sub hl [0, 2] rfl)⟩
    · have hf := pif_f c_53 hf
      refine lv_iload hx hb dX3_scan_10 (lv_at hl 5 rfl) ?_
      refine lv_aload_n hx hb dX3_scan_12 rfl (lv_at hl 0 rfl) ?_
      obtain ⟨hk_54, hf⟩ := gd_some hf
      refine q_gp (ci := 5) (C := RX3) (T := TX3) (N := 4) (k := 1) hx hb hts iRX3 hown hK hp hk_54 (by decide) rfl rfl (by decide) rfl (Or.inl (hts (.fieldLink RX3 17 "RecordBench$RecordReader" "pieces" "[LRecordBench$Piece;") (by decide +kernel))) (fun _ h9 => h9) dX3_scan_13 ?_
      obtain ⟨a_55, ha_56, hf⟩ := ono_some hf
      refine o_at ha_56 ?_
      obtain ⟨hk_57, hf⟩ := gd_some hf
      refine q_len (t0 := 4) hx hb hK hp (hp.2.2.1.ge hk_57 (by decide) (by decide) (by decide)) hk_57 (by decide) rfl dX3_scan_16 ?_
      refine lv_icmp_lt (tgt := 27) hx hb dX3_scan_17 (by decide) (fun c_58 => ?_) (fun c_58 => ?_)
      · have hf := pif_t c_58 hf
        refine lv_aload_n hx hb dX3_scan_27 rfl (lv_at hl 0 rfl) ?_
        refine q_gp (ci := 5) (C := RX3) (T := TX3) (N := 4) (k := 1) hx hb hts iRX3 hown hK hp hk_54 (by decide) rfl rfl (by decide) rfl (Or.inl (hts (.fieldLink RX3 17 "RecordBench$RecordReader" "pieces" "[LRecordBench$Piece;") (by decide +kernel))) (fun _ h9 => h9) dX3_scan_28 ?_
        refine lv_iload hx hb dX3_scan_31 (lv_at hl 5 rfl) ?_
        refine o_at1 ha_56 ?_
        obtain ⟨g_59, hf⟩ := gd_some hf
        refine q_aq (t0 := 4) hx hb hK hp hk_57 (by decide) rfl g_59 dX3_scan_33 ?_
        obtain ⟨v_60, ev_60, hf⟩ := nam_some hf
        refine W_too (y := v_60) ev_60.symm ?_
        refine o_astore (i := 6) (lv' := [(6, va_rf (Option.map ad v_60)), (0, .ref (ad h0)), (1, va_rf (Option.map ad p0)), (2, .int p1), (3, .int p2), (4, va_rf (Option.map ad p3)), (5, .int p4)]) hx hb dX3_scan_34 hl (by decide) rfl (fun ls hl => ?_)
        refine lv_iconst (v := 0) hx hb dX3_scan_36 (by decide) ?_
        refine lv_istore (i := 7) (lv' := [(7, .int 0), (6, va_rf (Option.map ad v_60)), (0, .ref (ad h0)), (1, va_rf (Option.map ad p0)), (2, .int p1), (3, .int p2), (4, va_rf (Option.map ad p3)), (5, .int p4)]) hx hb dX3_scan_37 hl (by decide) (by simp [rf_cat, vc_i, vc_l, vc_r, vc_n]) (fun ls hl => ?_)
        refine lv_iconst (v := 0) hx hb dX3_scan_39 (by decide) ?_
        refine lv_istore (i := 8) (lv' := [(8, .int 0), (7, .int 0), (6, va_rf (Option.map ad v_60)), (0, .ref (ad h0)), (1, va_rf (Option.map ad p0)), (2, .int p1), (3, .int p2), (4, va_rf (Option.map ad p3)), (5, .int p4)]) hx hb dX3_scan_40 hl (by decide) rfl (fun ls hl => ?_)
        refine lv_iload_n hx hb dX3_scan_42 rfl (lv_at hl 5 rfl) ?_
        refine lv_istore (i := 9) (lv' := [(9, .int p1), (8, .int 0), (7, .int 0), (6, va_rf (Option.map ad v_60)), (0, .ref (ad h0)), (1, va_rf (Option.map ad p0)), (2, .int p1), (3, .int p2), (4, va_rf (Option.map ad p3)), (5, .int p4)]) hx hb dX3_scan_43 hl (by decide) rfl (fun ls hl => ?_)
        refine lv_iconst (v := 0) hx hb dX3_scan_45 (by decide) ?_
        refine lv_istore (i := 10) (lv' := [(10, .int 0), (9, .int p1), (8, .int 0), (7, .int 0), (6, va_rf (Option.map ad v_60)), (0, .ref (ad h0)), (1, va_rf (Option.map ad p0)), (2, .int p1), (3, .int p2), (4, va_rf (Option.map ad p3)), (5, .int p4)]) hx hb dX3_scan_46 hl (by decide) rfl (fun ls hl => ?_)
        exact J48 fuel (p0, p2, p3, p4, v_60, 0, 0, p1, 0, st) _ _ _ ⟨hf, hp, (lv_sub hl [5, 6, 8, 9, 10, 4, 3, 2, 1, 0] rfl)⟩
      · have hf := pif_f c_58 hf
        exact J20 (p1, st) _ _ _ ⟨hf, hp, (lv_sub hl [0, 2] rfl)⟩
noncomputable def fX3_scanN : Nat → Nat → (Option Nat) → Int32 → Int32 → (Option Nat) → Int32 → CS → Option (Int32 × CS)
  | 0 => fun _ _ _ _ _ _ _ => none
  | d + 1 => fun h0 p0 p1 p2 p3 p4 st => fX3_scan (fX3_scanN d) h0 p0 p1 p2 p3 p4 st
theorem fX3_scanN_z (h0 : Nat) (p0 : Option Nat) (p1 : Int32) (p2 : Int32) (p3 : Option Nat) (p4 : Int32) (st : CS) : fX3_scanN 0 h0 p0 p1 p2 p3 p4 st = none := rfl
theorem fX3_scanN_s (d : Nat) (h0 : Nat) (p0 : Option Nat) (p1 : Int32) (p2 : Int32) (p3 : Option Nat) (p4 : Int32) (st : CS) : fX3_scanN (d + 1) h0 p0 p1 p2 p3 p4 st = fX3_scan (fX3_scanN d) h0 p0 p1 p2 p3 p4 st := rfl
theorem mo_X3_scanN : ∀ (d : Nat) (h0 : Nat) (p0 : Option Nat) (p1 : Int32) (p2 : Int32) (p3 : Option Nat) (p4 : Int32) (st : CS) (r : Int32) (st' : CS), fX3_scanN d h0 p0 p1 p2 p3 p4 st = some (r, st') → Ke st st' := by
  intro d
  induction d with
  | zero =>
    intro h0 p0 p1 p2 p3 p4 st r st' hf
    rw [fX3_scanN_z] at hf
    cases hf
  | succ d ih =>
    intro h0 p0 p1 p2 p3 p4 st r st' hf
    rw [fX3_scanN_s] at hf
    exact mo_X3_scan (fX3_scanN d) ih h0 p0 p1 p2 p3 p4 st r st' hf
theorem c_X3_scanN (l : Launch) (dC : Nat → ClassId) (dI : Nat → Nat → Nat) (ka ad : Nat → Nat) (ct : Nat → ClassId) : ∀ (d : Nat) (h0 : Nat) (p0 : Option Nat) (p1 : Int32) (p2 : Int32) (p3 : Option Nat) (p4 : Int32) (st st' : CS) (r : Int32) (hf : fX3_scanN d h0 p0 p1 p2 p3 p4 st = some (r, st')) (sz : Nat), Met l yX3_scan wq_X3_scan ({ frames := 4 * d, cells := 0, slots := 0, locals := 106 * d }) (va_Pc [.ref (ad h0), va_rf (Option.map ad p0), .int p1, .int p2, va_rf (Option.map ad p3), .int p4] (PrC (dC, dI) ct ka ad st sz)) (va_Qi (fun r' (_ : Unit) => r' = r) (fun _ => CB (dC, dI) ct ka ad st' (aC ad st sz)) (aC ad st sz)) 0 0 (aC ad st sz) := by
  intro d
  induction d with
  | zero =>
    intro h0 p0 p1 p2 p3 p4 st st' r hf sz
    rw [fX3_scanN_z] at hf
    cases hf
  | succ d ih =>
    intro h0 p0 p1 p2 p3 p4 st st' r hf sz
    rw [fX3_scanN_s] at hf
    exact c_X3_scan l dC dI ka ad ct (fX3_scanN d) (mo_X3_scanN d) (4 * d) (106 * d) ih h0 p0 p1 p2 p3 p4 st st' r hf sz
noncomputable def fX3_isSound (h0 : Nat) (p0 : Option Nat) (p1 : Option Nat) (st : CS) : Option (Int32 × CS) := gd (qk st h0 = 6) (nam (wI st h0 2 0) (fun st_2 => nam (wI st_2 h0 3 (-1)) (fun st_3 => ono p0 (fun a_4 => gd (qk st_3 a_4 = 8) (bnd (fX5_size a_4 st_3) (fun r_9 st_7 => bnd (fX3_scanN 12 h0 p0 0 r_9 p1 0 st_7) (fun r_12 st_10 => gd (narrow .boolean (.int r_12) = .int r_12) (some (r_12, st_10)))))))))
set_option maxHeartbeats 1000000 in
theorem mo_X3_isSound (h0 : Nat) (p0 : Option Nat) (p1 : Option Nat) (st : CS) (r : Int32) (st' : CS) (hf : fX3_isSound h0 p0 p1 st = some (r, st')) : Ke st st' := by
  unfold fX3_isSound at hf
  have hm : Ke st st := Ke.rf
  obtain ⟨hk_1, hf⟩ := gd_some hf
  obtain ⟨st_2, est_2, hf⟩ := nam_some hf
  have hm := hm.wI est_2
  obtain ⟨st_3, est_3, hf⟩ := nam_some hf
  have hm := hm.wI est_3
  obtain ⟨a_4, ha_5, hf⟩ := ono_some hf
  obtain ⟨hk_6, hf⟩ := gd_some hf
  obtain ⟨r_9, st_7, hc_8, hf⟩ := bnd_some hf
  have hm := hm.tr (mo_X5_size a_4 _ _ _ hc_8)
  obtain ⟨r_12, st_10, hc_11, hf⟩ := bnd_some hf
  have hm := hm.tr (mo_X3_scanN 12 h0 p0 0 r_9 p1 0 _ _ _ hc_11)
  obtain ⟨hz, hf⟩ := gd_some hf
  obtain ⟨e1, e2⟩ := pr_some hf
  exact e2 ▸ hm
def wq_X3_isSound : List Cond := .code yX3_isSound cX3_isSound 3 (some .boolean) :: (([.fieldLink RX3 22 "RecordBench$RecordReader" "fault" "I", .fieldLink RX3 26 "RecordBench$RecordReader" "place" "I", .methodLink RX3 29 yX5_size, .instanceMethod yX5_size, .selects RX5 yX5_size yX5_size, .initialized RX5, .methodLink RX3 35 yX3_scan, .instanceMethod yX3_scan, .selects RX3 yX3_scan yX3_scan, .initialized RX3, .code yX5_size cX5_size 1 (some .int), .fieldLink RX5 21 "RecordBench$Row" "size" "I", .code yX3_scan cX3_scan 13 (some .boolean), .fieldLink RX3 17 "RecordBench$RecordReader" "pieces" "[LRecordBench$Piece;", .methodLink RX3 79 yX3_groupBit, .static yX3_groupBit, .methodLink RX3 43 yX2_look, .instanceMethod yX2_look, .selects RX2 yX2_look yX2_look, .initialized RX2, .methodLink RX3 50 yX1_knownAt, .instanceMethod yX1_knownAt, .selects RX1 yX1_knownAt yX1_knownAt, .initialized RX1, .methodLink RX3 56 yX3_faultOf, .static yX3_faultOf, .methodLink RX3 60 yX3_isRec, .static yX3_isRec, .fieldLink RX3 9 "RecordBench$RecordReader" "makes" "[LRecordBench$Make;", .static yX8_makeOf, .initialized RX8, .methodLink RX3 39 yX3_refuse, .instanceMethod yX3_refuse, .selects RX3 yX3_refuse yX3_refuse, .code yX3_groupBit cX3_groupBit 1 (some .int), .code yX2_look cX2_look 6 none, .fieldLink RX2 9 "RecordBench$Piece" "number" "I", .fieldLink RX2 15 "RecordBench$Piece" "withLength" "Z", .fieldLink RX2 19 "RecordBench$Piece" "raw" "J", .fieldLink RX2 23 "RecordBench$Piece" "body" "I", .fieldLink RX2 26 "RecordBench$Piece" "end" "I", .fieldLink RX2 29 "RecordBench$Piece" "fault" "I", .fieldLink RX2 32 "RecordBench$Piece" "pos" "I", .fieldLink RX2 35 "RecordBench$Piece" "broken" "Z", .methodLink RX2 42 yX2_place, .instanceMethod yX2_place, .selects RX2 yX2_place yX2_place, .methodLink RX2 38 yX2_takeVarint, .instanceMethod yX2_takeVarint, .selects RX2 yX2_takeVarint yX2_takeVarint, .code yX2_place cX2_place 6 none, .constantLong RX2 46 (30), .code yX2_takeVarint cX2_takeVarint 7 (some .long), .constantLong RX2 54 (127), .methodLink RX2 48 yX5_byteAt, .instanceMethod yX5_byteAt, .selects RX5 yX5_byteAt yX5_byteAt, .code yX5_byteAt cX5_byteAt 2 (some .int), .fieldLink RX5 15 "RecordBench$Row" "bytes" "[I", .code yX1_knownAt cX1_knownAt 3 (some (.object "RecordBench$Field")), .methodLink RX1 21 yX1_fieldAt, .instanceMethod yX1_fieldAt, .selects RX1 yX1_fieldAt yX1_fieldAt, .code yX1_fieldAt cX1_fieldAt 2 (some (.object "RecordBench$Field")), .fieldLink RX1 11 "RecordBench$Make" "fields" "[LRecordBench$Field;", .code yX3_faultOf cX3_faultOf 5 (some .int), .methodLink RX3 92 yX3_fits, .static yX3_fits, .methodLink RX3 88 yX0_hasLength, .instanceMethod yX0_hasLength, .selects RX0 yX0_hasLength yX0_hasLength, .initialized RX0, .code yX3_fits cX3_fits 3 (some .boolean), .methodLink RX3 96 yX0_isNumber, .instanceMethod yX0_isNumber, .selects RX0 yX0_isNumber yX0_isNumber, .methodLink RX3 110 yX5_isText, .instanceMethod yX5_isText, .selects RX5 yX5_isText yX5_isText, .methodLink RX3 99 yX2_asNumber, .instanceMethod yX2_asNumber, .selects RX2 yX2_asNumber yX2_asNumber, .methodLink RX3 103 yX0_holds, .instanceMethod yX0_holds, .selects RX0 yX0_holds yX0_holds, .code yX0_isNumber cX0_isNumber 1 (some .boolean), .fieldLink RX0 15 "RecordBench$Field" "kind" "I", .code yX5_isText cX5_isText 4 (some .boolean), .methodLink RX5 48 yX5_byteAt, .methodLink RX5 52 yX5_isTextByte, .static yX5_isTextByte, .code yX5_isTextByte cX5_isTextByte 1 (some .boolean), .code yX2_asNumber cX2_asNumber 1 (some .long), .code yX0_holds cX0_holds 3 (some .boolean), .constantLong RX0 37 (-128), .constantLong RX0 39 (127), .constantLong RX0 41 (-2147483648), .constantLong RX0 43 (2147483647), .code yX0_hasLength cX0_hasLength 1 (some .boolean), .code yX3_isRec cX3_isRec 1 (some .boolean), .code yX8_makeOf cX8_makeOf 2 (some (.object "RecordBench$Make")), .code yX3_refuse cX3_refuse 3 (some .boolean)] : List Cond) ++ wsX30 ++ wsX50 ++ wsX20 ++ wsX00 ++ wsX10)
theorem gs_wq_X3_isSound_wsX50 : GoodIn wq_X3_isSound wsX50 := fun w h => ⟨List.mem_cons_of_mem _ (List.mem_append_left _ (List.mem_append_left _ (List.mem_append_left _ (List.mem_append_right _ h)))), (gt_wsX50 w h).2⟩
set_option maxRecDepth 20000 in
theorem gq_X3_isSound_X5_size_29 : GoodIn wq_X3_isSound (wsV RX3 29 RX5 yX5_size wq_X5_size) := goodIn_app (goodIn_r _ [3, 4, 5, 6] rfl rfl) (goodIn_ca (goodIn_r _ [11, 12] rfl rfl) gs_wq_X3_isSound_wsX50)
theorem gs_wq_X3_isSound_wsX30 : GoodIn wq_X3_isSound wsX30 := fun w h => ⟨List.mem_cons_of_mem _ (List.mem_append_left _ (List.mem_append_left _ (List.mem_append_left _ (List.mem_append_left _ (List.mem_append_right _ h))))), (gt_wsX30 w h).2⟩
theorem gs_wq_X3_isSound_wsX20 : GoodIn wq_X3_isSound wsX20 := fun w h => ⟨List.mem_cons_of_mem _ (List.mem_append_left _ (List.mem_append_left _ (List.mem_append_right _ h))), (gt_wsX20 w h).2⟩
theorem gs_wq_X3_isSound_wsX00 : GoodIn wq_X3_isSound wsX00 := fun w h => ⟨List.mem_cons_of_mem _ (List.mem_append_left _ (List.mem_append_right _ h)), (gt_wsX00 w h).2⟩
theorem gs_wq_X3_isSound_wsX10 : GoodIn wq_X3_isSound wsX10 := fun w h => ⟨List.mem_cons_of_mem _ (List.mem_append_right _ h), (gt_wsX10 w h).2⟩
set_option maxRecDepth 20000 in
theorem gq_X3_isSound_X3_scan_35 : GoodIn wq_X3_isSound (wsV RX3 35 RX3 yX3_scan wq_X3_scan) := goodIn_app (goodIn_r _ [7, 8, 9, 10] rfl rfl) (goodIn_ca (goodIn_ca (goodIn_ca (goodIn_ca (goodIn_ca (goodIn_r _ [13, 14, 15, 16, 10, 17, 18, 19, 20, 21, 22, 23, 24, 25, 26, 27, 28, 29, 30, 31, 7, 8, 9, 32, 33, 34, 35, 36, 37, 38, 39, 40, 41, 42, 43, 44, 45, 46, 47, 48, 49, 50, 51, 52, 53, 54, 55, 56, 57, 6, 58, 12, 59, 60, 61, 62, 63, 64, 65, 66, 67, 68, 69, 70, 71, 72, 73, 74, 75, 76, 77, 78, 79, 80, 81, 82, 83, 84, 85, 86, 87, 88, 89, 90, 91, 92, 93, 94, 95, 96, 97, 98, 99, 100, 101, 102, 1, 2] rfl rfl) gs_wq_X3_isSound_wsX30) gs_wq_X3_isSound_wsX20) gs_wq_X3_isSound_wsX00) gs_wq_X3_isSound_wsX50) gs_wq_X3_isSound_wsX10)
set_option maxHeartbeats 4000000 in
set_option maxRecDepth 100000 in
theorem c_X3_isSound (l : Launch) (dC : Nat → ClassId) (dI : Nat → Nat → Nat) (ka ad : Nat → Nat) (ct : Nat → ClassId) (h0 : Nat) (p0 : Option Nat) (p1 : Option Nat) (st st' : CS) (r : Int32) (hf : fX3_isSound h0 p0 p1 st = some (r, st')) (sz : Nat) : Met l yX3_isSound wq_X3_isSound ({ frames := 49, cells := 0, slots := 0, locals := 1308 }) (va_Pc [.ref (ad h0), va_rf (Option.map ad p0), va_rf (Option.map ad p1)] (PrC (dC, dI) ct ka ad st sz)) (va_Qi (fun r' (_ : Unit) => r' = r) (fun _ => CB (dC, dI) ct ka ad st' (aC ad st sz)) (aC ad st sz)) 0 0 (aC ad st sz) := by
  refine Met.ofW (cc := cX3_isSound) (maxL := 3) (ret := (some .boolean)) (by decide) rfl ?_
  intro p e s m args below meth c s₁ B hml hv
  obtain ⟨rfl, hsz, hw0, hK, hN, hZ, hC, hR, hL, hw1, hw2⟩ := hv
  have hx := B.exec
  have hb := B.bytes
  have hr := B.returns
  have hts := atoms_spec (ws := wq_X3_isSound) B.pre
  have hown : s.vm.findClass RX3 = some m.cls := findClass_of_methodNamed B.named
  have iRX3 : ∀ w ∈ u_ws RX3 TX3 4, w ∈ wq_X3_isSound := fun w h => List.mem_cons_of_mem _ (List.mem_append_left _ (List.mem_append_left _ (List.mem_append_left _ (List.mem_append_left _ (List.mem_append_right _ h)))))
  subst hsz
  have hp : Cp (dC, dI) ka ad ct (aC ad st s.heap.size) s.heap st s.heap [] := ⟨fun i a b => ⟨hw0 i a b, Or.inl ⟨i, a, b, rfl⟩⟩, va_S.rf, hw1, hw2⟩
  generalize hAe : aC ad st s.heap.size = A at hp hZ hC ⊢
  have hA : ∀ q : Nat, s.heap.size ≤ q → A q := fun q h => by rw [← hAe]; exact Or.inr h
  have hl := lv_entry ([.ref (ad h0), va_rf (Option.map ad p0), va_rf (Option.map ad p1)]) (n := 3) (by simp [lg_sl, rf_cat, vc_i, vc_l, vc_r, vc_n])
  rw [lg_entry_eq]
  generalize (lg_sl ([.ref (ad h0), va_rf (Option.map ad p0), va_rf (Option.map ad p1)]) ++ List.replicate (3 - (lg_sl ([.ref (ad h0), va_rf (Option.map ad p0), va_rf (Option.map ad p1)])).length) Slot.unset).toArray = ls at hl ⊢
  have hl : lv_has ls 3 [(0, .ref (ad h0)), (1, va_rf (Option.map ad p0)), (2, va_rf (Option.map ad p1))] := by simpa [lv_args, rf_cat, vc_i, vc_l, vc_r, vc_n] using hl
  unfold fX3_isSound at hf
  refine lv_aload_n hx hb dX3_isSound_0 rfl (lv_at hl 0 rfl) ?_
  refine lv_iconst (v := 0) hx hb dX3_isSound_1 (by decide) ?_
  obtain ⟨hk_1, hf⟩ := gd_some hf
  refine q_pi (ci := 5) (C := RX3) (T := TX3) (N := 4) (k := 2) (v := 0) (ty := .int) hx hb hts iRX3 tyX3 tyX3_ok nmX3 hown hK hp hk_1 (by decide) rfl rfl (by decide) rfl (Or.inl (hts (.fieldLink RX3 22 "RecordBench$RecordReader" "fault" "I") (by decide +kernel))) (fun _ h9 => h9) rfl (by decide +kernel) rfl rfl dX3_isSound_2 (fun H locs hp => ?_)
  obtain ⟨st_2, est_2, hf⟩ := nam_some hf
  rw [← est_2] at hp
  have hk_1 : qk st_2 h0 = 6 := by rw [est_2]; exact hk_1
  refine lv_aload_n hx hb dX3_isSound_5 rfl (lv_at hl 0 rfl) ?_
  refine lv_iconst (v := (-1)) hx hb dX3_isSound_6 (by decide) ?_
  refine q_pi (ci := 5) (C := RX3) (T := TX3) (N := 4) (k := 3) (v := (-1)) (ty := .int) hx hb hts iRX3 tyX3 tyX3_ok nmX3 hown hK hp hk_1 (by decide) rfl rfl (by decide) rfl (Or.inl (hts (.fieldLink RX3 26 "RecordBench$RecordReader" "place" "I") (by decide +kernel))) (fun _ h9 => h9) rfl (by decide +kernel) rfl rfl dX3_isSound_7 (fun H locs hp => ?_)
  obtain ⟨st_3, est_3, hf⟩ := nam_some hf
  rw [← est_3] at hp
  have hk_1 : qk st_3 h0 = 6 := by rw [est_3]; exact hk_1
  refine lv_aload_n hx hb dX3_isSound_10 rfl (lv_at hl 0 rfl) ?_
  refine o_aload_n hx hb dX3_isSound_11 rfl (lv_at hl 1 rfl) ?_
  refine lv_iconst (v := 0) hx hb dX3_isSound_12 (by decide) ?_
  refine o_aload_n hx hb dX3_isSound_13 rfl (lv_at hl 1 rfl) ?_
  obtain ⟨a_4, ha_5, hf⟩ := ono_some hf
  refine o_at ha_5 ?_
  obtain ⟨hk_6, hf⟩ := gd_some hf
  obtain ⟨r_9, st_7, hc_8, hf⟩ := bnd_some hf
  refine q_ci hp hA (va_runV (As := []) (rest := [.int 0, va_rf (Option.map ad p0), .ref (ad h0)]) ⟨hx, hb, hml, hown, hts⟩ (c_X5_size l dC dI ka ad ct a_4 _ _ _ hc_8 _) (cwV 0 hts gq_X3_isSound_X5_size_29 rfl rfl rfl (by decide +kernel) ⟨Nat.le_of_ble_eq_true rfl, Nat.le_of_ble_eq_true rfl⟩) ⟨PrC.blind _, q_rv7 hK hp hC hk_6, q_pre hp hK hN hZ hC hR hL hA⟩ rfl rfl hl.1 rfl (lv_room (by simp [rf_cat, vc_i, vc_l, vc_r, vc_n])) dX3_isSound_14 ⟨Nat.le_of_ble_eq_true rfl, Nat.le_of_ble_eq_true rfl⟩) (fun H locs hp => ?_)
  have hk_1 : qk st_7 h0 = 6 := by rw [(mo_X5_size a_4 _ _ _ hc_8).2.2.1]; exact hk_1
  have hk_6 : qk st_7 a_4 = 8 := by rw [(mo_X5_size a_4 _ _ _ hc_8).2.2.1]; exact hk_6
  refine o_aload_n hx hb dX3_isSound_17 rfl (lv_at hl 2 rfl) ?_
  refine lv_iconst (v := 0) hx hb dX3_isSound_18 (by decide) ?_
  obtain ⟨r_12, st_10, hc_11, hf⟩ := bnd_some hf
  refine q_ci hp hA (va_runV (As := [va_rf (Option.map ad p0), .int 0, .int r_9, va_rf (Option.map ad p1), .int 0]) (rest := []) ⟨hx, hb, hml, hown, hts⟩ (c_X3_scanN l dC dI ka ad ct 12 h0 p0 0 r_9 p1 0 _ _ _ hc_11 _) (cwV 5 hts gq_X3_isSound_X3_scan_35 rfl rfl rfl (by decide +kernel) ⟨Nat.le_of_ble_eq_true rfl, Nat.le_of_ble_eq_true rfl⟩) ⟨PrC.blind _, q_rv5 hK hp hC hk_1, q_pre hp hK hN hZ hC hR hL hA⟩ rfl rfl hl.1 rfl (lv_room (Nat.le_of_ble_eq_true rfl)) dX3_isSound_19 ⟨Nat.le_of_ble_eq_true rfl, Nat.le_of_ble_eq_true rfl⟩) (fun H locs hp => ?_)
  have hk_1 : qk st_10 h0 = 6 := by rw [(mo_X3_scanN 12 h0 p0 0 r_9 p1 0 _ _ _ hc_11).2.2.1]; exact hk_1
  have hk_6 : qk st_10 a_4 = 8 := by rw [(mo_X3_scanN 12 h0 p0 0 r_9 p1 0 _ _ _ hc_11).2.2.1]; exact hk_6
  obtain ⟨hz, hf⟩ := gd_some hf
  obtain ⟨e1, e2⟩ := pr_some hf
  exact W.zret (v := r_12) hx hb hr hz (fun t ht hW => ⟨⟨r_12, (), rfl, e1, Cp.end e2 hp ht⟩, hp.2.1.F ht⟩) hp.2.1.2.2 dX3_isSound_22
noncomputable def fX3_countPieces_69 (h0 : Nat) (k17 : Option Nat → Option Nat → Int32 → Option Nat → Int32 → Int32 → Int32 → CS → Option (Int32 × CS)) (l1 : Option Nat) (l2 : Option Nat) (l3 : Int32) (l4 : Option Nat) (l5 : Int32) (l7 : Int32) (gs : CS) : Option (Int32 × CS) := ono l4 (fun a_1 => gd (qk gs a_1 = 5) (nam (qI gs a_1 4) (fun v_4 => nam (l7 + 1) (fun v_5 => k17 l1 l2 l3 l4 l5 v_4 v_5 gs))))
set_option maxHeartbeats 1000000 in
theorem mo_X3_countPieces_69 (h0 : Nat) (k17 : Option Nat → Option Nat → Int32 → Option Nat → Int32 → Int32 → Int32 → CS → Option (Int32 × CS)) (hk17 : ∀ (l1 : Option Nat) (l2 : Option Nat) (l3 : Int32) (l4 : Option Nat) (l5 : Int32) (l6 : Int32) (l7 : Int32) (gs : CS) (r : Int32) (st' : CS), k17 l1 l2 l3 l4 l5 l6 l7 gs = some (r, st') → Ke gs st') (l1 : Option Nat) (l2 : Option Nat) (l3 : Int32) (l4 : Option Nat) (l5 : Int32) (l7 : Int32) (gs : CS) (r : Int32) (st' : CS) (hf : fX3_countPieces_69 h0 k17 l1 l2 l3 l4 l5 l7 gs = some (r, st')) : Ke gs st' := by
  unfold fX3_countPieces_69 at hf
  have hm : Ke gs gs := Ke.rf
  obtain ⟨a_1, ha_2, hf⟩ := ono_some hf
  obtain ⟨hk_3, hf⟩ := gd_some hf
  obtain ⟨v_4, ev_4, hf⟩ := nam_some hf
  obtain ⟨v_5, ev_5, hf⟩ := nam_some hf
  exact hm.tr (hk17 l1 l2 l3 l4 l5 v_4 v_5 gs _ _ hf)
noncomputable def fX3_countPieces_62 (h0 : Nat) (k17 : Option Nat → Option Nat → Int32 → Option Nat → Int32 → Int32 → Int32 → CS → Option (Int32 × CS)) (l1 : Option Nat) (l2 : Option Nat) (l3 : Int32) (l4 : Option Nat) (l5 : Int32) (l7 : Int32) (s0 : Int32) (gs : CS) : Option (Int32 × CS) := pif (s0 = l3) (nam (l5 + 1) (fun v_7 => fX3_countPieces_69 h0 k17 l1 l2 l3 l4 v_7 l7 gs)) (fX3_countPieces_69 h0 k17 l1 l2 l3 l4 l5 l7 gs)
set_option maxHeartbeats 1000000 in
theorem mo_X3_countPieces_62 (h0 : Nat) (k17 : Option Nat → Option Nat → Int32 → Option Nat → Int32 → Int32 → Int32 → CS → Option (Int32 × CS)) (hk17 : ∀ (l1 : Option Nat) (l2 : Option Nat) (l3 : Int32) (l4 : Option Nat) (l5 : Int32) (l6 : Int32) (l7 : Int32) (gs : CS) (r : Int32) (st' : CS), k17 l1 l2 l3 l4 l5 l6 l7 gs = some (r, st') → Ke gs st') (l1 : Option Nat) (l2 : Option Nat) (l3 : Int32) (l4 : Option Nat) (l5 : Int32) (l7 : Int32) (s0 : Int32) (gs : CS) (r : Int32) (st' : CS) (hf : fX3_countPieces_62 h0 k17 l1 l2 l3 l4 l5 l7 s0 gs = some (r, st')) : Ke gs st' := by
  unfold fX3_countPieces_62 at hf
  have hm : Ke gs gs := Ke.rf
  rcases pif_or hf with ⟨c_6, hf⟩ | ⟨c_6, hf⟩
  · obtain ⟨v_7, ev_7, hf⟩ := nam_some hf
    exact hm.tr (mo_X3_countPieces_69 h0 k17 hk17 l1 l2 l3 l4 v_7 l7 gs _ _ hf)
  · exact hm.tr (mo_X3_countPieces_69 h0 k17 hk17 l1 l2 l3 l4 l5 l7 gs _ _ hf)
noncomputable def fX3_countPieces_17 (h0 : Nat)  : Nat → Option Nat → Option Nat → Int32 → Option Nat → Int32 → Int32 → Int32 → CS → Option (Int32 × CS)
  | 0 => fun _ _ _ _ _ _ _ _ => none
  | n + 1 => fun l1 l2 l3 l4 l5 l6 l7 gs => pif (120 ≤ l7) (some (l5, gs)) (ono l1 (fun a_9 => gd (qk gs a_9 = 8) (bnd (fX5_size a_9 gs) (fun r_14 st_12 => pif (r_14 ≤ l6) (some (l5, st_12)) (bnd (fX5_size a_9 st_12) (fun r_18 st_16 => ono l4 (fun a_19 => gd (qk st_16 a_19 = 5) (bnv (fX2_look a_19 l1 l6 r_18 st_16) (fun st_22 => ono l2 (fun a_25 => gd (qk st_22 a_25 = 4) (bnd (fX1_knownAt a_25 (qI st_22 a_19 0) st_22) (fun r_30 st_28 => pif (r_30 = none) (fX3_countPieces_62 h0 (fX3_countPieces_17 h0 n) l1 l2 l3 l4 l5 l7 0 st_28) (fX3_countPieces_62 h0 (fX3_countPieces_17 h0 n) l1 l2 l3 l4 l5 l7 1 st_28)))))))))))))
theorem fX3_countPieces_17_z (h0 : Nat)  (l1 : Option Nat) (l2 : Option Nat) (l3 : Int32) (l4 : Option Nat) (l5 : Int32) (l6 : Int32) (l7 : Int32) (gs : CS) : fX3_countPieces_17 h0 0 l1 l2 l3 l4 l5 l6 l7 gs = none := rfl
theorem fX3_countPieces_17_s (h0 : Nat)  (n : Nat) (l1 : Option Nat) (l2 : Option Nat) (l3 : Int32) (l4 : Option Nat) (l5 : Int32) (l6 : Int32) (l7 : Int32) (gs : CS) : fX3_countPieces_17 h0 (n + 1) l1 l2 l3 l4 l5 l6 l7 gs = pif (120 ≤ l7) (some (l5, gs)) (ono l1 (fun a_9 => gd (qk gs a_9 = 8) (bnd (fX5_size a_9 gs) (fun r_14 st_12 => pif (r_14 ≤ l6) (some (l5, st_12)) (bnd (fX5_size a_9 st_12) (fun r_18 st_16 => ono l4 (fun a_19 => gd (qk st_16 a_19 = 5) (bnv (fX2_look a_19 l1 l6 r_18 st_16) (fun st_22 => ono l2 (fun a_25 => gd (qk st_22 a_25 = 4) (bnd (fX1_knownAt a_25 (qI st_22 a_19 0) st_22) (fun r_30 st_28 => pif (r_30 = none) (fX3_countPieces_62 h0 (fX3_countPieces_17 h0 n) l1 l2 l3 l4 l5 l7 0 st_28) (fX3_countPieces_62 h0 (fX3_countPieces_17 h0 n) l1 l2 l3 l4 l5 l7 1 st_28))))))))))))) := rfl
set_option maxHeartbeats 1000000 in
theorem mo_X3_countPieces_17 (h0 : Nat)   : ∀ (n : Nat) (l1 : Option Nat) (l2 : Option Nat) (l3 : Int32) (l4 : Option Nat) (l5 : Int32) (l6 : Int32) (l7 : Int32) (gs : CS) (r : Int32) (st' : CS), fX3_countPieces_17 h0 n l1 l2 l3 l4 l5 l6 l7 gs = some (r, st') → Ke gs st' := by
  intro n
  induction n with
  | zero =>
    intro l1 l2 l3 l4 l5 l6 l7 gs r st' hf
    rw [fX3_countPieces_17_z] at hf
    cases hf
  | succ n ih =>
    intro l1 l2 l3 l4 l5 l6 l7 gs r st' hf
    rw [fX3_countPieces_17_s] at hf
    have hm : Ke gs gs := Ke.rf
    rcases pif_or hf with ⟨c_8, hf⟩ | ⟨c_8, hf⟩
    · obtain ⟨e1, e2⟩ := pr_some hf
      exact e2 ▸ hm
    · obtain ⟨a_9, ha_10, hf⟩ := ono_some hf
      obtain ⟨hk_11, hf⟩ := gd_some hf
      obtain ⟨r_14, st_12, hc_13, hf⟩ := bnd_some hf
      have hm := hm.tr (mo_X5_size a_9 _ _ _ hc_13)
      rcases pif_or hf with ⟨c_15, hf⟩ | ⟨c_15, hf⟩
      · obtain ⟨e1, e2⟩ := pr_some hf
        exact e2 ▸ hm
      · obtain ⟨r_18, st_16, hc_17, hf⟩ := bnd_some hf
        have hm := hm.tr (mo_X5_size a_9 _ _ _ hc_17)
        obtain ⟨a_19, ha_20, hf⟩ := ono_some hf
        obtain ⟨hk_21, hf⟩ := gd_some hf
        obtain ⟨st_22, hc_23, hf⟩ := bnv_some hf
        have hm := hm.tr (mo_X2_look a_19 l1 l6 r_18 _ _ hc_23)
        obtain ⟨a_25, ha_26, hf⟩ := ono_some hf
        obtain ⟨hk_27, hf⟩ := gd_some hf
        obtain ⟨r_30, st_28, hc_29, hf⟩ := bnd_some hf
        have hm := hm.tr (mo_X1_knownAt a_25 (qI st_22 a_19 0) _ _ _ hc_29)
        rcases pif_or hf with ⟨c_31, hf⟩ | ⟨c_31, hf⟩
        · exact hm.tr (mo_X3_countPieces_62 h0 (fX3_countPieces_17 h0 n) ih l1 l2 l3 l4 l5 l7 0 st_28 _ _ hf)
        · exact hm.tr (mo_X3_countPieces_62 h0 (fX3_countPieces_17 h0 n) ih l1 l2 l3 l4 l5 l7 1 st_28 _ _ hf)
noncomputable def fX3_countPieces (h0 : Nat) (p0 : Option Nat) (p1 : Option Nat) (p2 : Int32) (st : CS) : Option (Int32 × CS) := gd (qk st h0 = 6) (ono (qP st h0 1) (fun a_33 => gd (qk st a_33 = 25) (gd (vp_in (0 : Int32) (ql st a_33)) (nam (qP st a_33 (0 : Int32).toNatClampNeg) (fun v_37 => fX3_countPieces_17 h0 fuel p0 p1 p2 v_37 0 0 0 st)))))
set_option maxHeartbeats 1000000 in
theorem mo_X3_countPieces (h0 : Nat) (p0 : Option Nat) (p1 : Option Nat) (p2 : Int32) (st : CS) (r : Int32) (st' : CS) (hf : fX3_countPieces h0 p0 p1 p2 st = some (r, st')) : Ke st st' := by
  unfold fX3_countPieces at hf
  have hm : Ke st st := Ke.rf
  obtain ⟨hk_32, hf⟩ := gd_some hf
  obtain ⟨a_33, ha_34, hf⟩ := ono_some hf
  obtain ⟨hk_35, hf⟩ := gd_some hf
  obtain ⟨g_36, hf⟩ := gd_some hf
  obtain ⟨v_37, ev_37, hf⟩ := nam_some hf
  exact hm.tr (mo_X3_countPieces_17 h0 fuel p0 p1 p2 v_37 0 0 0 st _ _ hf)
def wq_X3_countPieces : List Cond := .code yX3_countPieces cX3_countPieces 8 (some .int) :: (([.fieldLink RX3 17 "RecordBench$RecordReader" "pieces" "[LRecordBench$Piece;", .methodLink RX3 29 yX5_size, .instanceMethod yX5_size, .selects RX5 yX5_size yX5_size, .initialized RX5, .methodLink RX3 43 yX2_look, .instanceMethod yX2_look, .selects RX2 yX2_look yX2_look, .initialized RX2, .methodLink RX3 50 yX1_knownAt, .instanceMethod yX1_knownAt, .selects RX1 yX1_knownAt yX1_knownAt, .initialized RX1, .code yX5_size cX5_size 1 (some .int), .fieldLink RX5 21 "RecordBench$Row" "size" "I", .code yX2_look cX2_look 6 none, .fieldLink RX2 9 "RecordBench$Piece" "number" "I", .fieldLink RX2 15 "RecordBench$Piece" "withLength" "Z", .fieldLink RX2 19 "RecordBench$Piece" "raw" "J", .fieldLink RX2 23 "RecordBench$Piece" "body" "I", .fieldLink RX2 26 "RecordBench$Piece" "end" "I", .fieldLink RX2 29 "RecordBench$Piece" "fault" "I", .fieldLink RX2 32 "RecordBench$Piece" "pos" "I", .fieldLink RX2 35 "RecordBench$Piece" "broken" "Z", .methodLink RX2 42 yX2_place, .instanceMethod yX2_place, .selects RX2 yX2_place yX2_place, .methodLink RX2 38 yX2_takeVarint, .instanceMethod yX2_takeVarint, .selects RX2 yX2_takeVarint yX2_takeVarint, .code yX2_place cX2_place 6 none, .constantLong RX2 46 (30), .code yX2_takeVarint cX2_takeVarint 7 (some .long), .constantLong RX2 54 (127), .methodLink RX2 48 yX5_byteAt, .instanceMethod yX5_byteAt, .selects RX5 yX5_byteAt yX5_byteAt, .code yX5_byteAt cX5_byteAt 2 (some .int), .fieldLink RX5 15 "RecordBench$Row" "bytes" "[I", .code yX1_knownAt cX1_knownAt 3 (some (.object "RecordBench$Field")), .methodLink RX1 21 yX1_fieldAt, .instanceMethod yX1_fieldAt, .selects RX1 yX1_fieldAt yX1_fieldAt, .code yX1_fieldAt cX1_fieldAt 2 (some (.object "RecordBench$Field")), .fieldLink RX1 11 "RecordBench$Make" "fields" "[LRecordBench$Field;"] : List Cond) ++ wsX30 ++ wsX20 ++ wsX50 ++ wsX00 ++ wsX10)
theorem gs_wq_X3_countPieces_wsX50 : GoodIn wq_X3_countPieces wsX50 := fun w h => ⟨List.mem_cons_of_mem _ (List.mem_append_left _ (List.mem_append_left _ (List.mem_append_right _ h))), (gt_wsX50 w h).2⟩
set_option maxRecDepth 20000 in
theorem gq_X3_countPieces_X5_size_29 : GoodIn wq_X3_countPieces (wsV RX3 29 RX5 yX5_size wq_X5_size) := goodIn_app (goodIn_r _ [2, 3, 4, 5] rfl rfl) (goodIn_ca (goodIn_r _ [14, 15] rfl rfl) gs_wq_X3_countPieces_wsX50)
theorem gs_wq_X3_countPieces_wsX20 : GoodIn wq_X3_countPieces wsX20 := fun w h => ⟨List.mem_cons_of_mem _ (List.mem_append_left _ (List.mem_append_left _ (List.mem_append_left _ (List.mem_append_right _ h)))), (gt_wsX20 w h).2⟩
set_option maxRecDepth 20000 in
theorem gq_X3_countPieces_X2_look_43 : GoodIn wq_X3_countPieces (wsV RX3 43 RX2 yX2_look wq_X2_look) := goodIn_app (goodIn_r _ [6, 7, 8, 9] rfl rfl) (goodIn_ca (goodIn_ca (goodIn_r _ [16, 17, 18, 19, 20, 21, 22, 23, 24, 25, 26, 27, 9, 28, 29, 30, 31, 32, 33, 34, 35, 36, 37, 5, 38, 15, 39] rfl rfl) gs_wq_X3_countPieces_wsX20) gs_wq_X3_countPieces_wsX50)
theorem gs_wq_X3_countPieces_wsX00 : GoodIn wq_X3_countPieces wsX00 := fun w h => ⟨List.mem_cons_of_mem _ (List.mem_append_left _ (List.mem_append_right _ h)), (gt_wsX00 w h).2⟩
theorem gs_wq_X3_countPieces_wsX10 : GoodIn wq_X3_countPieces wsX10 := fun w h => ⟨List.mem_cons_of_mem _ (List.mem_append_right _ h), (gt_wsX10 w h).2⟩
set_option maxRecDepth 20000 in
theorem gq_X3_countPieces_X1_knownAt_50 : GoodIn wq_X3_countPieces (wsV RX3 50 RX1 yX1_knownAt wq_X1_knownAt) := goodIn_app (goodIn_r _ [10, 11, 12, 13] rfl rfl) (goodIn_ca (goodIn_ca (goodIn_r _ [40, 41, 42, 43, 13, 44, 45] rfl rfl) gs_wq_X3_countPieces_wsX00) gs_wq_X3_countPieces_wsX10)
set_option maxHeartbeats 4000000 in
set_option maxRecDepth 100000 in
theorem c_X3_countPieces (l : Launch) (dC : Nat → ClassId) (dI : Nat → Nat → Nat) (ka ad : Nat → Nat) (ct : Nat → ClassId) (h0 : Nat) (p0 : Option Nat) (p1 : Option Nat) (p2 : Int32) (st st' : CS) (r : Int32) (hf : fX3_countPieces h0 p0 p1 p2 st = some (r, st')) (sz : Nat) : Met l yX3_countPieces wq_X3_countPieces ({ frames := 3, cells := 0, slots := 0, locals := 84 }) (va_Pc [.ref (ad h0), va_rf (Option.map ad p0), va_rf (Option.map ad p1), .int p2] (PrC (dC, dI) ct ka ad st sz)) (va_Qi (fun r' (_ : Unit) => r' = r) (fun _ => CB (dC, dI) ct ka ad st' (aC ad st sz)) (aC ad st sz)) 0 0 (aC ad st sz) := by
  refine Met.ofW (cc := cX3_countPieces) (maxL := 8) (ret := (some .int)) (by decide) rfl ?_
  intro p e s m args below meth c s₁ B hml hv
  obtain ⟨rfl, hsz, hw0, hK, hN, hZ, hC, hR, hL, hw1, hw2⟩ := hv
  have hx := B.exec
  have hb := B.bytes
  have hr := B.returns
  have hts := atoms_spec (ws := wq_X3_countPieces) B.pre
  have hown : s.vm.findClass RX3 = some m.cls := findClass_of_methodNamed B.named
  have iRX3 : ∀ w ∈ u_ws RX3 TX3 4, w ∈ wq_X3_countPieces := fun w h => List.mem_cons_of_mem _ (List.mem_append_left _ (List.mem_append_left _ (List.mem_append_left _ (List.mem_append_left _ (List.mem_append_right _ h)))))
  have iRX2 : ∀ w ∈ u_ws RX2 TX2 8, w ∈ wq_X3_countPieces := fun w h => List.mem_cons_of_mem _ (List.mem_append_left _ (List.mem_append_left _ (List.mem_append_left _ (List.mem_append_right _ h))))
  subst hsz
  have hp : Cp (dC, dI) ka ad ct (aC ad st s.heap.size) s.heap st s.heap [] := ⟨fun i a b => ⟨hw0 i a b, Or.inl ⟨i, a, b, rfl⟩⟩, va_S.rf, hw1, hw2⟩
  generalize hAe : aC ad st s.heap.size = A at hp hZ hC ⊢
  have hA : ∀ q : Nat, s.heap.size ≤ q → A q := fun q h => by rw [← hAe]; exact Or.inr h
  have hl := lv_entry ([.ref (ad h0), va_rf (Option.map ad p0), va_rf (Option.map ad p1), .int p2]) (n := 8) (by simp [lg_sl, rf_cat, vc_i, vc_l, vc_r, vc_n])
  rw [lg_entry_eq]
  generalize (lg_sl ([.ref (ad h0), va_rf (Option.map ad p0), va_rf (Option.map ad p1), .int p2]) ++ List.replicate (8 - (lg_sl ([.ref (ad h0), va_rf (Option.map ad p0), va_rf (Option.map ad p1), .int p2])).length) Slot.unset).toArray = ls at hl ⊢
  have hl : lv_has ls 8 [(0, .ref (ad h0)), (1, va_rf (Option.map ad p0)), (2, va_rf (Option.map ad p1)), (3, .int p2)] := by simpa [lv_args, rf_cat, vc_i, vc_l, vc_r, vc_n] using hl
  refine W_lp (fun n17 (u : (Option Nat) × (Option Nat) × Int32 × (Option Nat) × Int32 × Int32 × Int32 × CS) H locs ls => match u with | (l1, l2, l3, l4, l5, l6, l7, gs) => fX3_countPieces_17 h0 n17 l1 l2 l3 l4 l5 l6 l7 gs = some (r, st') ∧ Cp (dC, dI) ka ad ct A s.heap gs H locs ∧ lv_has ls 8 [(1, va_rf (Option.map ad l1)), (2, va_rf (Option.map ad l2)), (3, .int l3), (4, va_rf (Option.map ad l4)), (5, .int l5), (6, .int l6), (7, .int l7)]) (fun (u : (Option Nat) × (Option Nat) × Int32 × (Option Nat) × Int32 × Int32 × Int32 × CS) ls => match u with | (l1, l2, l3, l4, l5, l6, l7, gs) => F0 m 17 ls []) ?_ ?_ (fun J17 => ?_)
  · intro u H locs ls hu
    obtain ⟨l1, l2, l3, l4, l5, l6, l7, gs⟩ := u
    obtain ⟨hf, hp, hl⟩ := hu
    rw [fX3_countPieces_17_z] at hf
    cases hf
  · intro n17 ih17 u H locs ls hu
    obtain ⟨l1, l2, l3, l4, l5, l6, l7, gs⟩ := u
    obtain ⟨hf, hp, hl⟩ := hu
    show W p l e _ s m _ below meth c _ _ _ _ _ (F0 m 17 ls [])
    refine W_blk (fun (u : (Option Nat) × (Option Nat) × Int32 × (Option Nat) × Int32 × Int32 × CS) H locs ls => match u with | (l1, l2, l3, l4, l5, l7, gs) => fX3_countPieces_69 h0 (fX3_countPieces_17 h0 n17) l1 l2 l3 l4 l5 l7 gs = some (r, st') ∧ Cp (dC, dI) ka ad ct A s.heap gs H locs ∧ lv_has ls 8 [(1, va_rf (Option.map ad l1)), (2, va_rf (Option.map ad l2)), (3, .int l3), (4, va_rf (Option.map ad l4)), (5, .int l5), (7, .int l7)]) (fun (u : (Option Nat) × (Option Nat) × Int32 × (Option Nat) × Int32 × Int32 × CS) ls => match u with | (l1, l2, l3, l4, l5, l7, gs) => F0 m 69 ls []) ?_ (fun J69 => ?_)
    · intro u H locs ls hu
      obtain ⟨l1, l2, l3, l4, l5, l7, gs⟩ := u
      obtain ⟨hf, hp, hl⟩ := hu
      show W p l e _ s m _ below meth c _ _ _ _ _ (F0 m 69 ls [])
      unfold fX3_countPieces_69 at hf
      refine o_aload hx hb dX3_countPieces_69 (lv_at hl 3 rfl) ?_
      obtain ⟨a_1, ha_2, hf⟩ := ono_some hf
      refine o_at ha_2 ?_
      obtain ⟨hk_3, hf⟩ := gd_some hf
      refine q_gi (ci := 4) (C := RX2) (T := TX2) (N := 8) (k := 4) hx hb hts iRX2 hown hK hp hk_3 (by decide) rfl rfl (by decide) rfl (Or.inr ⟨_, va_Nw.use rfl (hN.1 (.fieldLinkNest RX3 67 "RecordBench$Piece" "end" "I" "RecordBench") (by decide +kernel))⟩) (fun _ h9 => h9) dX3_countPieces_71 ?_
      obtain ⟨v_4, ev_4, hf⟩ := nam_some hf
      refine W_toi (y := v_4) ev_4.symm ?_
      refine lv_istore (i := 6) (lv' := [(6, .int v_4), (1, va_rf (Option.map ad l1)), (2, va_rf (Option.map ad l2)), (3, .int l3), (4, va_rf (Option.map ad l4)), (5, .int l5), (7, .int l7)]) hx hb dX3_countPieces_74 hl (by decide) rfl (fun ls hl => ?_)
      obtain ⟨v_5, ev_5, hf⟩ := nam_some hf
      refine lv_iinc (v := v_5) (lv' := [(7, .int v_5), (6, .int v_4), (1, va_rf (Option.map ad l1)), (2, va_rf (Option.map ad l2)), (3, .int l3), (4, va_rf (Option.map ad l4)), (5, .int l5)]) hx hb dX3_countPieces_76 hl (k := 6) rfl ev_5.symm (by decide) rfl (fun ls hl => ?_)
      refine lv_goto (tgt := 17) hx hb dX3_countPieces_79 (by decide) ?_
      exact ih17 (l1, l2, l3, l4, l5, v_4, v_5, gs) _ _ _ ⟨hf, hp, (lv_sub hl [2, 3, 4, 5, 6, 1, 0] rfl)⟩
    refine W_blk (fun (u : (Option Nat) × (Option Nat) × Int32 × (Option Nat) × Int32 × Int32 × Int32 × CS) H locs ls => match u with | (l1, l2, l3, l4, l5, l7, s0, gs) => fX3_countPieces_62 h0 (fX3_countPieces_17 h0 n17) l1 l2 l3 l4 l5 l7 s0 gs = some (r, st') ∧ Cp (dC, dI) ka ad ct A s.heap gs H locs ∧ lv_has ls 8 [(1, va_rf (Option.map ad l1)), (2, va_rf (Option.map ad l2)), (3, .int l3), (4, va_rf (Option.map ad l4)), (5, .int l5), (7, .int l7)]) (fun (u : (Option Nat) × (Option Nat) × Int32 × (Option Nat) × Int32 × Int32 × Int32 × CS) ls => match u with | (l1, l2, l3, l4, l5, l7, s0, gs) => F0 m 62 ls [.int s0]) ?_ (fun J62 => ?_)
    · intro u H locs ls hu
      obtain ⟨l1, l2, l3, l4, l5, l7, s0, gs⟩ := u
      obtain ⟨hf, hp, hl⟩ := hu
      show W p l e _ s m _ below meth c _ _ _ _ _ (F0 m 62 ls [.int s0])
      unfold fX3_countPieces_62 at hf
      refine lv_iload_n hx hb dX3_countPieces_62 rfl (lv_at hl 2 rfl) ?_
      refine lv_icmp_ne (tgt := 69) hx hb dX3_countPieces_63 (by decide) (fun c_6 => ?_) (fun c_6 => ?_)
      · have hf := pif_f c_6 hf
        exact J69 (l1, l2, l3, l4, l5, l7, gs) _ _ _ ⟨hf, hp, (lv_sub hl [0, 1, 2, 3, 4, 5] rfl)⟩
      · have hf := pif_t c_6 hf
        obtain ⟨v_7, ev_7, hf⟩ := nam_some hf
        refine lv_iinc (v := v_7) (lv' := [(5, .int v_7), (1, va_rf (Option.map ad l1)), (2, va_rf (Option.map ad l2)), (3, .int l3), (4, va_rf (Option.map ad l4)), (7, .int l7)]) hx hb dX3_countPieces_66 hl (k := 4) rfl ev_7.symm (by decide) (by simp [rf_cat, vc_i, vc_l, vc_r, vc_n]) (fun ls hl => ?_)
        exact J69 (l1, l2, l3, l4, v_7, l7, gs) _ _ _ ⟨hf, hp, (lv_sub hl [1, 2, 3, 4, 0, 5] rfl)⟩
    rw [fX3_countPieces_17_s] at hf
    refine lv_iload hx hb dX3_countPieces_17 (lv_at hl 6 rfl) ?_
    refine lv_bipush (v := 120) hx hb dX3_countPieces_19 (by decide) ?_
    refine lv_icmp_ge (tgt := 82) hx hb dX3_countPieces_21 (by decide) (fun c_8 => ?_) (fun c_8 => ?_)
    · have hf := pif_t c_8 hf
      refine lv_iload hx hb dX3_countPieces_82 (lv_at hl 4 rfl) ?_
      obtain ⟨e1, e2⟩ := pr_some hf
      exact W.iret (v := l5) hx hb hr (fun t ht hW => ⟨⟨l5, (), rfl, e1, Cp.end e2 hp ht⟩, hp.2.1.F ht⟩) hp.2.1.2.2 dX3_countPieces_84
    · have hf := pif_f c_8 hf
      refine lv_iload hx hb dX3_countPieces_24 (lv_at hl 5 rfl) ?_
      refine o_aload_n hx hb dX3_countPieces_26 rfl (lv_at hl 0 rfl) ?_
      obtain ⟨a_9, ha_10, hf⟩ := ono_some hf
      refine o_at ha_10 ?_
      obtain ⟨hk_11, hf⟩ := gd_some hf
      obtain ⟨r_14, st_12, hc_13, hf⟩ := bnd_some hf
      refine q_ci hp hA (va_runV (As := []) (rest := [.int l6]) ⟨hx, hb, hml, hown, hts⟩ (c_X5_size l dC dI ka ad ct a_9 _ _ _ hc_13 _) (cwV 0 hts gq_X3_countPieces_X5_size_29 rfl rfl rfl (by decide +kernel) ⟨Nat.le_of_ble_eq_true rfl, Nat.le_of_ble_eq_true rfl⟩) ⟨PrC.blind _, q_rv7 hK hp hC hk_11, q_pre hp hK hN hZ hC hR hL hA⟩ rfl rfl hl.1 rfl (lv_room (Nat.le_of_ble_eq_true rfl)) dX3_countPieces_27 ⟨Nat.le_of_ble_eq_true rfl, Nat.le_of_ble_eq_true rfl⟩) (fun H locs hp => ?_)
      have hk_11 : qk st_12 a_9 = 8 := by rw [(mo_X5_size a_9 _ _ _ hc_13).2.2.1]; exact hk_11
      refine lv_icmp_ge (tgt := 82) hx hb dX3_countPieces_30 (by decide) (fun c_15 => ?_) (fun c_15 => ?_)
      · have hf := pif_t c_15 hf
        refine lv_iload hx hb dX3_countPieces_82 (lv_at hl 4 rfl) ?_
        obtain ⟨e1, e2⟩ := pr_some hf
        exact W.iret (v := l5) hx hb hr (fun t ht hW => ⟨⟨l5, (), rfl, e1, Cp.end e2 hp ht⟩, hp.2.1.F ht⟩) hp.2.1.2.2 dX3_countPieces_84
      · have hf := pif_f c_15 hf
        refine o_aload hx hb dX3_countPieces_33 (lv_at hl 3 rfl) ?_
        refine o_aload_n hx hb dX3_countPieces_35 rfl (lv_at hl 0 rfl) ?_
        refine lv_iload hx hb dX3_countPieces_36 (lv_at hl 5 rfl) ?_
        refine o_aload_n hx hb dX3_countPieces_38 rfl (lv_at hl 0 rfl) ?_
        refine o_at ha_10 ?_
        obtain ⟨r_18, st_16, hc_17, hf⟩ := bnd_some hf
        refine q_ci hp hA (va_runV (As := []) (rest := [.int l6, va_rf (Option.map ad l1), va_rf (Option.map ad l4)]) ⟨hx, hb, hml, hown, hts⟩ (c_X5_size l dC dI ka ad ct a_9 _ _ _ hc_17 _) (cwV 0 hts gq_X3_countPieces_X5_size_29 rfl rfl rfl (by decide +kernel) ⟨Nat.le_of_ble_eq_true rfl, Nat.le_of_ble_eq_true rfl⟩) ⟨PrC.blind _, q_rv7 hK hp hC hk_11, q_pre hp hK hN hZ hC hR hL hA⟩ rfl rfl hl.1 rfl (lv_room (by simp [rf_cat, vc_i, vc_l, vc_r, vc_n])) dX3_countPieces_39 ⟨Nat.le_of_ble_eq_true rfl, Nat.le_of_ble_eq_true rfl⟩) (fun H locs hp => ?_)
        have hk_11 : qk st_16 a_9 = 8 := by rw [(mo_X5_size a_9 _ _ _ hc_17).2.2.1]; exact hk_11
        obtain ⟨a_19, ha_20, hf⟩ := ono_some hf
        refine o_at3 ha_20 ?_
        obtain ⟨hk_21, hf⟩ := gd_some hf
        obtain ⟨st_22, hc_23, hf⟩ := bnv_some hf
        refine q_cv hp hA (va_runV (As := [va_rf (Option.map ad l1), .int l6, .int r_18]) (rest := []) ⟨hx, hb, hml, hown, hts⟩ (c_X2_look l dC dI ka ad ct a_19 l1 l6 r_18 _ _ hc_23 _) (cwV 3 hts gq_X3_countPieces_X2_look_43 rfl rfl rfl (by decide +kernel) ⟨Nat.le_of_ble_eq_true rfl, Nat.le_of_ble_eq_true rfl⟩) ⟨PrC.blind _, q_rv4 hK hp hC hk_21, q_pre hp hK hN hZ hC hR hL hA⟩ rfl rfl hl.1 rfl (lv_room (Nat.le_of_ble_eq_true rfl)) dX3_countPieces_42 ⟨Nat.le_of_ble_eq_true rfl, Nat.le_of_ble_eq_true rfl⟩) (fun H locs hp => ?_)
        have hk_11 : qk st_22 a_9 = 8 := by rw [(mo_X2_look a_19 l1 l6 r_18 _ _ hc_23).2.2.1]; exact hk_11
        have hk_21 : qk st_22 a_19 = 5 := by rw [(mo_X2_look a_19 l1 l6 r_18 _ _ hc_23).2.2.1]; exact hk_21
        refine o_aload_n hx hb dX3_countPieces_45 rfl (lv_at hl 1 rfl) ?_
        refine o_aload hx hb dX3_countPieces_46 (lv_at hl 3 rfl) ?_
        refine o_at ha_20 ?_
        refine q_gi (ci := 4) (C := RX2) (T := TX2) (N := 8) (k := 0) hx hb hts iRX2 hown hK hp hk_21 (by decide) rfl rfl (by decide) rfl (Or.inr ⟨_, va_Nw.use rfl (hN.1 (.fieldLinkNest RX3 47 "RecordBench$Piece" "number" "I" "RecordBench") (by decide +kernel))⟩) (fun _ h9 => h9) dX3_countPieces_48 ?_
        obtain ⟨a_25, ha_26, hf⟩ := ono_some hf
        refine o_at1 ha_26 ?_
        obtain ⟨hk_27, hf⟩ := gd_some hf
        obtain ⟨r_30, st_28, hc_29, hf⟩ := bnd_some hf
        refine q_cq hp hA (va_runV (As := [.int (qI st_22 a_19 0)]) (rest := []) ⟨hx, hb, hml, hown, hts⟩ (c_X1_knownAt l dC dI ka ad ct a_25 (qI st_22 a_19 0) _ _ _ hc_29 _) (cwV 1 hts gq_X3_countPieces_X1_knownAt_50 rfl rfl rfl (by decide +kernel) ⟨Nat.le_of_ble_eq_true rfl, Nat.le_of_ble_eq_true rfl⟩) ⟨PrC.blind _, q_rv3 hK hp hC hk_27, q_pre hp hK hN hZ hC hR hL hA⟩ rfl rfl hl.1 rfl (lv_room (Nat.le_of_ble_eq_true rfl)) dX3_countPieces_51 ⟨Nat.le_of_ble_eq_true rfl, Nat.le_of_ble_eq_true rfl⟩) (fun H locs hp => ?_)
        have hk_11 : qk st_28 a_9 = 8 := by rw [(mo_X1_knownAt a_25 (qI st_22 a_19 0) _ _ _ hc_29).2.2.1]; exact hk_11
        have hk_21 : qk st_28 a_19 = 5 := by rw [(mo_X1_knownAt a_25 (qI st_22 a_19 0) _ _ _ hc_29).2.2.1]; exact hk_21
        have hk_27 : qk st_28 a_25 = 4 := by rw [(mo_X1_knownAt a_25 (qI st_22 a_19 0) _ _ _ hc_29).2.2.1]; exact hk_27
        refine o_ifnull (tgt := 61) hx hb dX3_countPieces_54 (by decide) (fun c_31 => ?_) (fun c_31 => ?_)
        · have hf := pif_t c_31 hf
          refine lv_iconst (v := 0) hx hb dX3_countPieces_61 (by decide) ?_
          exact J62 (l1, l2, l3, l4, l5, l7, 0, st_28) _ _ _ ⟨hf, hp, (lv_sub hl [0, 1, 2, 3, 4, 6] rfl)⟩
        · have hf := pif_f c_31 hf
          refine lv_iconst (v := 1) hx hb dX3_countPieces_57 (by decide) ?_
          refine lv_goto (tgt := 62) hx hb dX3_countPieces_58 (by decide) ?_
          exact J62 (l1, l2, l3, l4, l5, l7, 1, st_28) _ _ _ ⟨hf, hp, (lv_sub hl [0, 1, 2, 3, 4, 6] rfl)⟩
  unfold fX3_countPieces at hf
  refine lv_aload_n hx hb dX3_countPieces_0 rfl (lv_at hl 0 rfl) ?_
  obtain ⟨hk_32, hf⟩ := gd_some hf
  refine q_gp (ci := 5) (C := RX3) (T := TX3) (N := 4) (k := 1) hx hb hts iRX3 hown hK hp hk_32 (by decide) rfl rfl (by decide) rfl (Or.inl (hts (.fieldLink RX3 17 "RecordBench$RecordReader" "pieces" "[LRecordBench$Piece;") (by decide +kernel))) (fun _ h9 => h9) dX3_countPieces_1 ?_
  refine lv_iconst (v := 0) hx hb dX3_countPieces_4 (by decide) ?_
  obtain ⟨a_33, ha_34, hf⟩ := ono_some hf
  refine o_at1 ha_34 ?_
  obtain ⟨hk_35, hf⟩ := gd_some hf
  obtain ⟨g_36, hf⟩ := gd_some hf
  refine q_aq (t0 := 4) hx hb hK hp hk_35 (by decide) rfl g_36 dX3_countPieces_5 ?_
  obtain ⟨v_37, ev_37, hf⟩ := nam_some hf
  refine W_too (y := v_37) ev_37.symm ?_
  refine o_astore (i := 4) (lv' := [(4, va_rf (Option.map ad v_37)), (0, .ref (ad h0)), (1, va_rf (Option.map ad p0)), (2, va_rf (Option.map ad p1)), (3, .int p2)]) hx hb dX3_countPieces_6 hl (by decide) rfl (fun ls hl => ?_)
  refine lv_iconst (v := 0) hx hb dX3_countPieces_8 (by decide) ?_
  refine lv_istore (i := 5) (lv' := [(5, .int 0), (4, va_rf (Option.map ad v_37)), (0, .ref (ad h0)), (1, va_rf (Option.map ad p0)), (2, va_rf (Option.map ad p1)), (3, .int p2)]) hx hb dX3_countPieces_9 hl (by decide) (by simp [rf_cat, vc_i, vc_l, vc_r, vc_n]) (fun ls hl => ?_)
  refine lv_iconst (v := 0) hx hb dX3_countPieces_11 (by decide) ?_
  refine lv_istore (i := 6) (lv' := [(6, .int 0), (5, .int 0), (4, va_rf (Option.map ad v_37)), (0, .ref (ad h0)), (1, va_rf (Option.map ad p0)), (2, va_rf (Option.map ad p1)), (3, .int p2)]) hx hb dX3_countPieces_12 hl (by decide) rfl (fun ls hl => ?_)
  refine lv_iconst (v := 0) hx hb dX3_countPieces_14 (by decide) ?_
  refine lv_istore (i := 7) (lv' := [(7, .int 0), (6, .int 0), (5, .int 0), (4, va_rf (Option.map ad v_37)), (0, .ref (ad h0)), (1, va_rf (Option.map ad p0)), (2, va_rf (Option.map ad p1)), (3, .int p2)]) hx hb dX3_countPieces_15 hl (by decide) rfl (fun ls hl => ?_)
  exact J17 fuel (p0, p1, p2, v_37, 0, 0, 0, st) _ _ _ ⟨hf, hp, (lv_sub hl [5, 6, 7, 3, 2, 1, 0] rfl)⟩
noncomputable def fX3_find_13 (h0 : Nat)  : Nat → Option Nat → Int32 → Option Nat → Int32 → Int32 → CS → Option (Option Nat × CS)
  | 0 => fun _ _ _ _ _ _ => none
  | n + 1 => fun l1 l2 l3 l4 l5 gs => pif (120 ≤ l5) (some (none, gs)) (ono l1 (fun a_2 => gd (qk gs a_2 = 8) (bnd (fX5_size a_2 gs) (fun r_7 st_5 => pif (r_7 ≤ l4) (some (none, st_5)) (bnd (fX5_size a_2 st_5) (fun r_11 st_9 => ono l3 (fun a_12 => gd (qk st_9 a_12 = 5) (bnv (fX2_look a_12 l1 l4 r_11 st_9) (fun st_15 => pif ((qI st_15 a_12 0) = l2) (some (l3, st_15)) (nam (qI st_15 a_12 4) (fun v_19 => nam (l5 + 1) (fun v_20 => (fX3_find_13 h0 n) l1 l2 l3 v_19 v_20 st_15))))))))))))
theorem fX3_find_13_z (h0 : Nat)  (l1 : Option Nat) (l2 : Int32) (l3 : Option Nat) (l4 : Int32) (l5 : Int32) (gs : CS) : fX3_find_13 h0 0 l1 l2 l3 l4 l5 gs = none := rfl
theorem fX3_find_13_s (h0 : Nat)  (n : Nat) (l1 : Option Nat) (l2 : Int32) (l3 : Option Nat) (l4 : Int32) (l5 : Int32) (gs : CS) : fX3_find_13 h0 (n + 1) l1 l2 l3 l4 l5 gs = pif (120 ≤ l5) (some (none, gs)) (ono l1 (fun a_2 => gd (qk gs a_2 = 8) (bnd (fX5_size a_2 gs) (fun r_7 st_5 => pif (r_7 ≤ l4) (some (none, st_5)) (bnd (fX5_size a_2 st_5) (fun r_11 st_9 => ono l3 (fun a_12 => gd (qk st_9 a_12 = 5) (bnv (fX2_look a_12 l1 l4 r_11 st_9) (fun st_15 => pif ((qI st_15 a_12 0) = l2) (some (l3, st_15)) (nam (qI st_15 a_12 4) (fun v_19 => nam (l5 + 1) (fun v_20 => (fX3_find_13 h0 n) l1 l2 l3 v_19 v_20 st_15)))))))))))) := rfl
set_option maxHeartbeats 1000000 in
theorem mo_X3_find_13 (h0 : Nat)   : ∀ (n : Nat) (l1 : Option Nat) (l2 : Int32) (l3 : Option Nat) (l4 : Int32) (l5 : Int32) (gs : CS) (r : Option Nat) (st' : CS), fX3_find_13 h0 n l1 l2 l3 l4 l5 gs = some (r, st') → Ke gs st' := by
  intro n
  induction n with
  | zero =>
    intro l1 l2 l3 l4 l5 gs r st' hf
    rw [fX3_find_13_z] at hf
    cases hf
  | succ n ih =>
    intro l1 l2 l3 l4 l5 gs r st' hf
    rw [fX3_find_13_s] at hf
    have hm : Ke gs gs := Ke.rf
    rcases pif_or hf with ⟨c_1, hf⟩ | ⟨c_1, hf⟩
    · obtain ⟨e1, e2⟩ := pr_some hf
      exact e2 ▸ hm
    · obtain ⟨a_2, ha_3, hf⟩ := ono_some hf
      obtain ⟨hk_4, hf⟩ := gd_some hf
      obtain ⟨r_7, st_5, hc_6, hf⟩ := bnd_some hf
      have hm := hm.tr (mo_X5_size a_2 _ _ _ hc_6)
      rcases pif_or hf with ⟨c_8, hf⟩ | ⟨c_8, hf⟩
      · obtain ⟨e1, e2⟩ := pr_some hf
        exact e2 ▸ hm
      · obtain ⟨r_11, st_9, hc_10, hf⟩ := bnd_some hf
        have hm := hm.tr (mo_X5_size a_2 _ _ _ hc_10)
        obtain ⟨a_12, ha_13, hf⟩ := ono_some hf
        obtain ⟨hk_14, hf⟩ := gd_some hf
        obtain ⟨st_15, hc_16, hf⟩ := bnv_some hf
        have hm := hm.tr (mo_X2_look a_12 l1 l4 r_11 _ _ hc_16)
        rcases pif_or hf with ⟨c_18, hf⟩ | ⟨c_18, hf⟩
        · obtain ⟨e1, e2⟩ := pr_some hf
          exact e2 ▸ hm
        · obtain ⟨v_19, ev_19, hf⟩ := nam_some hf
          obtain ⟨v_20, ev_20, hf⟩ := nam_some hf
          exact hm.tr (ih l1 l2 l3 v_19 v_20 st_15 _ _ hf)
noncomputable def fX3_find (h0 : Nat) (p0 : Option Nat) (p1 : Int32) (st : CS) : Option (Option Nat × CS) := gd (qk st h0 = 6) (ono (qP st h0 1) (fun a_22 => gd (qk st a_22 = 25) (gd (vp_in (0 : Int32) (ql st a_22)) (nam (qP st a_22 (0 : Int32).toNatClampNeg) (fun v_26 => fX3_find_13 h0 fuel p0 p1 v_26 0 0 st)))))
set_option maxHeartbeats 1000000 in
theorem mo_X3_find (h0 : Nat) (p0 : Option Nat) (p1 : Int32) (st : CS) (r : Option Nat) (st' : CS) (hf : fX3_find h0 p0 p1 st = some (r, st')) : Ke st st' := by
  unfold fX3_find at hf
  have hm : Ke st st := Ke.rf
  obtain ⟨hk_21, hf⟩ := gd_some hf
  obtain ⟨a_22, ha_23, hf⟩ := ono_some hf
  obtain ⟨hk_24, hf⟩ := gd_some hf
  obtain ⟨g_25, hf⟩ := gd_some hf
  obtain ⟨v_26, ev_26, hf⟩ := nam_some hf
  exact hm.tr (mo_X3_find_13 h0 fuel p0 p1 v_26 0 0 st _ _ hf)
def wq_X3_find : List Cond := .code yX3_find cX3_find 6 (some (.object "RecordBench$Piece")) :: (([.fieldLink RX3 17 "RecordBench$RecordReader" "pieces" "[LRecordBench$Piece;", .methodLink RX3 29 yX5_size, .instanceMethod yX5_size, .selects RX5 yX5_size yX5_size, .initialized RX5, .methodLink RX3 43 yX2_look, .instanceMethod yX2_look, .selects RX2 yX2_look yX2_look, .initialized RX2, .code yX5_size cX5_size 1 (some .int), .fieldLink RX5 21 "RecordBench$Row" "size" "I", .code yX2_look cX2_look 6 none, .fieldLink RX2 9 "RecordBench$Piece" "number" "I", .fieldLink RX2 15 "RecordBench$Piece" "withLength" "Z", .fieldLink RX2 19 "RecordBench$Piece" "raw" "J", .fieldLink RX2 23 "RecordBench$Piece" "body" "I", .fieldLink RX2 26 "RecordBench$Piece" "end" "I", .fieldLink RX2 29 "RecordBench$Piece" "fault" "I", .fieldLink RX2 32 "RecordBench$Piece" "pos" "I", .fieldLink RX2 35 "RecordBench$Piece" "broken" "Z", .methodLink RX2 42 yX2_place, .instanceMethod yX2_place, .selects RX2 yX2_place yX2_place, .methodLink RX2 38 yX2_takeVarint, .instanceMethod yX2_takeVarint, .selects RX2 yX2_takeVarint yX2_takeVarint, .code yX2_place cX2_place 6 none, .constantLong RX2 46 (30), .code yX2_takeVarint cX2_takeVarint 7 (some .long), .constantLong RX2 54 (127), .methodLink RX2 48 yX5_byteAt, .instanceMethod yX5_byteAt, .selects RX5 yX5_byteAt yX5_byteAt, .code yX5_byteAt cX5_byteAt 2 (some .int), .fieldLink RX5 15 "RecordBench$Row" "bytes" "[I"] : List Cond) ++ wsX30 ++ wsX20 ++ wsX50)
theorem gs_wq_X3_find_wsX50 : GoodIn wq_X3_find wsX50 := fun w h => ⟨List.mem_cons_of_mem _ (List.mem_append_right _ h), (gt_wsX50 w h).2⟩
set_option maxRecDepth 20000 in
theorem gq_X3_find_X5_size_29 : GoodIn wq_X3_find (wsV RX3 29 RX5 yX5_size wq_X5_size) := goodIn_app (goodIn_r _ [2, 3, 4, 5] rfl rfl) (goodIn_ca (goodIn_r _ [10, 11] rfl rfl) gs_wq_X3_find_wsX50)
theorem gs_wq_X3_find_wsX20 : GoodIn wq_X3_find wsX20 := fun w h => ⟨List.mem_cons_of_mem _ (List.mem_append_left _ (List.mem_append_right _ h)), (gt_wsX20 w h).2⟩
set_option maxRecDepth 20000 in
theorem gq_X3_find_X2_look_43 : GoodIn wq_X3_find (wsV RX3 43 RX2 yX2_look wq_X2_look) := goodIn_app (goodIn_r _ [6, 7, 8, 9] rfl rfl) (goodIn_ca (goodIn_ca (goodIn_r _ [12, 13, 14, 15, 16, 17, 18, 19, 20, 21, 22, 23, 9, 24, 25, 26, 27, 28, 29, 30, 31, 32, 33, 5, 34, 11, 35] rfl rfl) gs_wq_X3_find_wsX20) gs_wq_X3_find_wsX50)
set_option maxHeartbeats 4000000 in
set_option maxRecDepth 100000 in
theorem c_X3_find (l : Launch) (dC : Nat → ClassId) (dI : Nat → Nat → Nat) (ka ad : Nat → Nat) (ct : Nat → ClassId) (h0 : Nat) (p0 : Option Nat) (p1 : Int32) (st st' : CS) (r : Option Nat) (hf : fX3_find h0 p0 p1 st = some (r, st')) (sz : Nat) : Met l yX3_find wq_X3_find ({ frames := 3, cells := 0, slots := 0, locals := 84 }) (va_Pc [.ref (ad h0), va_rf (Option.map ad p0), .int p1] (PrC (dC, dI) ct ka ad st sz)) (va_Qq (fun r' (_ : Unit) => r' = Option.map ad r) (fun _ => CB (dC, dI) ct ka ad st' (aC ad st sz)) (aC ad st sz)) 0 0 (aC ad st sz) := by
  refine Met.ofW (cc := cX3_find) (maxL := 6) (ret := (some (.object "RecordBench$Piece"))) (by decide) rfl ?_
  intro p e s m args below meth c s₁ B hml hv
  obtain ⟨rfl, hsz, hw0, hK, hN, hZ, hC, hR, hL, hw1, hw2⟩ := hv
  have hx := B.exec
  have hb := B.bytes
  have hr := B.returns
  have hts := atoms_spec (ws := wq_X3_find) B.pre
  have hown : s.vm.findClass RX3 = some m.cls := findClass_of_methodNamed B.named
  have iRX3 : ∀ w ∈ u_ws RX3 TX3 4, w ∈ wq_X3_find := fun w h => List.mem_cons_of_mem _ (List.mem_append_left _ (List.mem_append_left _ (List.mem_append_right _ h)))
  have iRX2 : ∀ w ∈ u_ws RX2 TX2 8, w ∈ wq_X3_find := fun w h => List.mem_cons_of_mem _ (List.mem_append_left _ (List.mem_append_right _ h))
  subst hsz
  have hp : Cp (dC, dI) ka ad ct (aC ad st s.heap.size) s.heap st s.heap [] := ⟨fun i a b => ⟨hw0 i a b, Or.inl ⟨i, a, b, rfl⟩⟩, va_S.rf, hw1, hw2⟩
  generalize hAe : aC ad st s.heap.size = A at hp hZ hC ⊢
  have hA : ∀ q : Nat, s.heap.size ≤ q → A q := fun q h => by rw [← hAe]; exact Or.inr h
  have hl := lv_entry ([.ref (ad h0), va_rf (Option.map ad p0), .int p1]) (n := 6) (by simp [lg_sl, rf_cat, vc_i, vc_l, vc_r, vc_n])
  rw [lg_entry_eq]
  generalize (lg_sl ([.ref (ad h0), va_rf (Option.map ad p0), .int p1]) ++ List.replicate (6 - (lg_sl ([.ref (ad h0), va_rf (Option.map ad p0), .int p1])).length) Slot.unset).toArray = ls at hl ⊢
  have hl : lv_has ls 6 [(0, .ref (ad h0)), (1, va_rf (Option.map ad p0)), (2, .int p1)] := by simpa [lv_args, rf_cat, vc_i, vc_l, vc_r, vc_n] using hl
  refine W_lp (fun n13 (u : (Option Nat) × Int32 × (Option Nat) × Int32 × Int32 × CS) H locs ls => match u with | (l1, l2, l3, l4, l5, gs) => fX3_find_13 h0 n13 l1 l2 l3 l4 l5 gs = some (r, st') ∧ Cp (dC, dI) ka ad ct A s.heap gs H locs ∧ lv_has ls 6 [(1, va_rf (Option.map ad l1)), (2, .int l2), (3, va_rf (Option.map ad l3)), (4, .int l4), (5, .int l5)]) (fun (u : (Option Nat) × Int32 × (Option Nat) × Int32 × Int32 × CS) ls => match u with | (l1, l2, l3, l4, l5, gs) => F0 m 13 ls []) ?_ ?_ (fun J13 => ?_)
  · intro u H locs ls hu
    obtain ⟨l1, l2, l3, l4, l5, gs⟩ := u
    obtain ⟨hf, hp, hl⟩ := hu
    rw [fX3_find_13_z] at hf
    cases hf
  · intro n13 ih13 u H locs ls hu
    obtain ⟨l1, l2, l3, l4, l5, gs⟩ := u
    obtain ⟨hf, hp, hl⟩ := hu
    show W p l e _ s m _ below meth c _ _ _ _ _ (F0 m 13 ls [])
    rw [fX3_find_13_s] at hf
    refine lv_iload hx hb dX3_find_13 (lv_at hl 4 rfl) ?_
    refine lv_bipush (v := 120) hx hb dX3_find_15 (by decide) ?_
    refine lv_icmp_ge (tgt := 62) hx hb dX3_find_17 (by decide) (fun c_1 => ?_) (fun c_1 => ?_)
    · have hf := pif_t c_1 hf
      refine lv_null hx hb dX3_find_62 ?_
      obtain ⟨e1, e2⟩ := pr_some hf
      exact W.aret (v := va_rf (Option.map ad none)) hx hb hr (Or.inl ⟨_, rfl⟩) (rf_or _) (fun t ht hW => ⟨⟨Option.map ad none, (), rfl, by rw [e1], Cp.end e2 hp ht⟩, hp.2.1.F ht⟩) hp.2.1.2.2 dX3_find_63
    · have hf := pif_f c_1 hf
      refine lv_iload hx hb dX3_find_20 (lv_at hl 3 rfl) ?_
      refine o_aload_n hx hb dX3_find_22 rfl (lv_at hl 0 rfl) ?_
      obtain ⟨a_2, ha_3, hf⟩ := ono_some hf
      refine o_at ha_3 ?_
      obtain ⟨hk_4, hf⟩ := gd_some hf
      obtain ⟨r_7, st_5, hc_6, hf⟩ := bnd_some hf
      refine q_ci hp hA (va_runV (As := []) (rest := [.int l4]) ⟨hx, hb, hml, hown, hts⟩ (c_X5_size l dC dI ka ad ct a_2 _ _ _ hc_6 _) (cwV 0 hts gq_X3_find_X5_size_29 rfl rfl rfl (by decide +kernel) ⟨Nat.le_of_ble_eq_true rfl, Nat.le_of_ble_eq_true rfl⟩) ⟨PrC.blind _, q_rv7 hK hp hC hk_4, q_pre hp hK hN hZ hC hR hL hA⟩ rfl rfl hl.1 rfl (lv_room (Nat.le_of_ble_eq_true rfl)) dX3_find_23 ⟨Nat.le_of_ble_eq_true rfl, Nat.le_of_ble_eq_true rfl⟩) (fun H locs hp => ?_)
      have hk_4 : qk st_5 a_2 = 8 := by rw [(mo_X5_size a_2 _ _ _ hc_6).2.2.1]; exact hk_4
      refine lv_icmp_ge (tgt := 62) hx hb dX3_find_26 (by decide) (fun c_8 => ?_) (fun c_8 => ?_)
      · have hf := pif_t c_8 hf
        refine lv_null hx hb dX3_find_62 ?_
        obtain ⟨e1, e2⟩ := pr_some hf
        exact W.aret (v := va_rf (Option.map ad none)) hx hb hr (Or.inl ⟨_, rfl⟩) (rf_or _) (fun t ht hW => ⟨⟨Option.map ad none, (), rfl, by rw [e1], Cp.end e2 hp ht⟩, hp.2.1.F ht⟩) hp.2.1.2.2 dX3_find_63
      · have hf := pif_f c_8 hf
        refine o_aload_n hx hb dX3_find_29 rfl (lv_at hl 2 rfl) ?_
        refine o_aload_n hx hb dX3_find_30 rfl (lv_at hl 0 rfl) ?_
        refine lv_iload hx hb dX3_find_31 (lv_at hl 3 rfl) ?_
        refine o_aload_n hx hb dX3_find_33 rfl (lv_at hl 0 rfl) ?_
        refine o_at ha_3 ?_
        obtain ⟨r_11, st_9, hc_10, hf⟩ := bnd_some hf
        refine q_ci hp hA (va_runV (As := []) (rest := [.int l4, va_rf (Option.map ad l1), va_rf (Option.map ad l3)]) ⟨hx, hb, hml, hown, hts⟩ (c_X5_size l dC dI ka ad ct a_2 _ _ _ hc_10 _) (cwV 0 hts gq_X3_find_X5_size_29 rfl rfl rfl (by decide +kernel) ⟨Nat.le_of_ble_eq_true rfl, Nat.le_of_ble_eq_true rfl⟩) ⟨PrC.blind _, q_rv7 hK hp hC hk_4, q_pre hp hK hN hZ hC hR hL hA⟩ rfl rfl hl.1 rfl (lv_room (by simp [rf_cat, vc_i, vc_l, vc_r, vc_n])) dX3_find_34 ⟨Nat.le_of_ble_eq_true rfl, Nat.le_of_ble_eq_true rfl⟩) (fun H locs hp => ?_)
        have hk_4 : qk st_9 a_2 = 8 := by rw [(mo_X5_size a_2 _ _ _ hc_10).2.2.1]; exact hk_4
        obtain ⟨a_12, ha_13, hf⟩ := ono_some hf
        refine o_at3 ha_13 ?_
        obtain ⟨hk_14, hf⟩ := gd_some hf
        obtain ⟨st_15, hc_16, hf⟩ := bnv_some hf
        refine q_cv hp hA (va_runV (As := [va_rf (Option.map ad l1), .int l4, .int r_11]) (rest := []) ⟨hx, hb, hml, hown, hts⟩ (c_X2_look l dC dI ka ad ct a_12 l1 l4 r_11 _ _ hc_16 _) (cwV 3 hts gq_X3_find_X2_look_43 rfl rfl rfl (by decide +kernel) ⟨Nat.le_of_ble_eq_true rfl, Nat.le_of_ble_eq_true rfl⟩) ⟨PrC.blind _, q_rv4 hK hp hC hk_14, q_pre hp hK hN hZ hC hR hL hA⟩ rfl rfl hl.1 rfl (lv_room (Nat.le_of_ble_eq_true rfl)) dX3_find_37 ⟨Nat.le_of_ble_eq_true rfl, Nat.le_of_ble_eq_true rfl⟩) (fun H locs hp => ?_)
        have hk_4 : qk st_15 a_2 = 8 := by rw [(mo_X2_look a_12 l1 l4 r_11 _ _ hc_16).2.2.1]; exact hk_4
        have hk_14 : qk st_15 a_12 = 5 := by rw [(mo_X2_look a_12 l1 l4 r_11 _ _ hc_16).2.2.1]; exact hk_14
        refine o_aload_n hx hb dX3_find_40 rfl (lv_at hl 2 rfl) ?_
        refine o_at ha_13 ?_
        refine q_gi (ci := 4) (C := RX2) (T := TX2) (N := 8) (k := 0) hx hb hts iRX2 hown hK hp hk_14 (by decide) rfl rfl (by decide) rfl (Or.inr ⟨_, va_Nw.use rfl (hN.1 (.fieldLinkNest RX3 47 "RecordBench$Piece" "number" "I" "RecordBench") (by decide +kernel))⟩) (fun _ h9 => h9) dX3_find_41 ?_
        refine lv_iload_n hx hb dX3_find_44 rfl (lv_at hl 1 rfl) ?_
        refine lv_icmp_ne (tgt := 50) hx hb dX3_find_45 (by decide) (fun c_18 => ?_) (fun c_18 => ?_)
        · have hf := pif_f c_18 hf
          refine o_aload_n hx hb dX3_find_50 rfl (lv_at hl 2 rfl) ?_
          refine o_at ha_13 ?_
          refine q_gi (ci := 4) (C := RX2) (T := TX2) (N := 8) (k := 4) hx hb hts iRX2 hown hK hp hk_14 (by decide) rfl rfl (by decide) rfl (Or.inr ⟨_, va_Nw.use rfl (hN.1 (.fieldLinkNest RX3 67 "RecordBench$Piece" "end" "I" "RecordBench") (by decide +kernel))⟩) (fun _ h9 => h9) dX3_find_51 ?_
          obtain ⟨v_19, ev_19, hf⟩ := nam_some hf
          refine W_toi (y := v_19) ev_19.symm ?_
          refine lv_istore (i := 4) (lv' := [(4, .int v_19), (1, va_rf (Option.map ad l1)), (2, .int l2), (3, va_rf (Option.map ad l3)), (5, .int l5)]) hx hb dX3_find_54 hl (by decide) (by simp [rf_cat, vc_i, vc_l, vc_r, vc_n]) (fun ls hl => ?_)
          obtain ⟨v_20, ev_20, hf⟩ := nam_some hf
          refine lv_iinc (v := v_20) (lv' := [(5, .int v_20), (4, .int v_19), (1, va_rf (Option.map ad l1)), (2, .int l2), (3, va_rf (Option.map ad l3))]) hx hb dX3_find_56 hl (k := 4) rfl ev_20.symm (by decide) rfl (fun ls hl => ?_)
          refine lv_goto (tgt := 13) hx hb dX3_find_59 (by decide) ?_
          exact ih13 (l1, l2, l3, v_19, v_20, st_15) _ _ _ ⟨hf, hp, (lv_sub hl [2, 3, 4, 1, 0] rfl)⟩
        · have hf := pif_t c_18 hf
          refine o_aload_n hx hb dX3_find_48 rfl (lv_at hl 2 rfl) ?_
          obtain ⟨e1, e2⟩ := pr_some hf
          exact W.aret (v := va_rf (Option.map ad l3)) hx hb hr (Or.inl ⟨_, rfl⟩) (rf_or _) (fun t ht hW => ⟨⟨Option.map ad l3, (), rfl, by rw [e1], Cp.end e2 hp ht⟩, hp.2.1.F ht⟩) hp.2.1.2.2 dX3_find_49
  unfold fX3_find at hf
  refine lv_aload_n hx hb dX3_find_0 rfl (lv_at hl 0 rfl) ?_
  obtain ⟨hk_21, hf⟩ := gd_some hf
  refine q_gp (ci := 5) (C := RX3) (T := TX3) (N := 4) (k := 1) hx hb hts iRX3 hown hK hp hk_21 (by decide) rfl rfl (by decide) rfl (Or.inl (hts (.fieldLink RX3 17 "RecordBench$RecordReader" "pieces" "[LRecordBench$Piece;") (by decide +kernel))) (fun _ h9 => h9) dX3_find_1 ?_
  refine lv_iconst (v := 0) hx hb dX3_find_4 (by decide) ?_
  obtain ⟨a_22, ha_23, hf⟩ := ono_some hf
  refine o_at1 ha_23 ?_
  obtain ⟨hk_24, hf⟩ := gd_some hf
  obtain ⟨g_25, hf⟩ := gd_some hf
  refine q_aq (t0 := 4) hx hb hK hp hk_24 (by decide) rfl g_25 dX3_find_5 ?_
  obtain ⟨v_26, ev_26, hf⟩ := nam_some hf
  refine W_too (y := v_26) ev_26.symm ?_
  refine o_astore_n (i := 3) (lv' := [(3, va_rf (Option.map ad v_26)), (0, .ref (ad h0)), (1, va_rf (Option.map ad p0)), (2, .int p1)]) hx hb dX3_find_6 rfl hl (by decide) rfl (fun ls hl => ?_)
  refine lv_iconst (v := 0) hx hb dX3_find_7 (by decide) ?_
  refine lv_istore (i := 4) (lv' := [(4, .int 0), (3, va_rf (Option.map ad v_26)), (0, .ref (ad h0)), (1, va_rf (Option.map ad p0)), (2, .int p1)]) hx hb dX3_find_8 hl (by decide) (by simp [rf_cat, vc_i, vc_l, vc_r, vc_n]) (fun ls hl => ?_)
  refine lv_iconst (v := 0) hx hb dX3_find_10 (by decide) ?_
  refine lv_istore (i := 5) (lv' := [(5, .int 0), (4, .int 0), (3, va_rf (Option.map ad v_26)), (0, .ref (ad h0)), (1, va_rf (Option.map ad p0)), (2, .int p1)]) hx hb dX3_find_11 hl (by decide) rfl (fun ls hl => ?_)
  exact J13 fuel (p0, p1, v_26, 0, 0, st) _ _ _ ⟨hf, hp, (lv_sub hl [4, 5, 2, 1, 0] rfl)⟩
