theorem dX8_at_0 : decode cX8_at 0 = .ok (.aload_n 0, 1) := by decide +kernel
theorem dX8_at_1 : decode cX8_at 1 = .ok (.iload_n 1, 1) := by decide +kernel
theorem dX8_at_10 : decode cX8_at 10 = .ok (.iconst (-1), 1) := by decide +kernel
theorem dX8_at_11 : decode cX8_at 11 = .ok (.goto 8, 3) := by decide +kernel
theorem dX8_at_14 : decode cX8_at 14 = .ok (.aload_n 3, 1) := by decide +kernel
theorem dX8_at_15 : decode cX8_at 15 = .ok (.iload_n 2, 1) := by decide +kernel
theorem dX8_at_16 : decode cX8_at 16 = .ok (.invokevirtual 195, 3) := by decide +kernel
theorem dX8_at_19 : decode cX8_at 19 = .ok (.ireturn, 1) := by decide +kernel
theorem dX8_at_2 : decode cX8_at 2 = .ok (.invokevirtual 128, 3) := by decide +kernel
theorem dX8_at_5 : decode cX8_at 5 = .ok (.astore_n 3, 1) := by decide +kernel
theorem dX8_at_6 : decode cX8_at 6 = .ok (.aload_n 3, 1) := by decide +kernel
theorem dX8_at_7 : decode cX8_at 7 = .ok (.ifnonnull 7, 3) := by decide +kernel
theorem dX8_by_0 : decode cX8_by 0 = .ok (.aload_n 0, 1) := by decide +kernel
theorem dX8_by_1 : decode cX8_by 1 = .ok (.getfield 73, 3) := by decide +kernel
theorem dX8_by_4 : decode cX8_by 4 = .ok (.ireturn, 1) := by decide +kernel
theorem dX8_clear_0 : decode cX8_clear 0 = .ok (.aload_n 0, 1) := by decide +kernel
theorem dX8_clear_1 : decode cX8_clear 1 = .ok (.iload_n 1, 1) := by decide +kernel
theorem dX8_clear_10 : decode cX8_clear 10 = .ok (.iconst (-1), 1) := by decide +kernel
theorem dX8_clear_11 : decode cX8_clear 11 = .ok (.ireturn, 1) := by decide +kernel
theorem dX8_clear_12 : decode cX8_clear 12 = .ok (.aload_n 2, 1) := by decide +kernel
theorem dX8_clear_13 : decode cX8_clear 13 = .ok (.invokevirtual 76, 3) := by decide +kernel
theorem dX8_clear_16 : decode cX8_clear 16 = .ok (.istore_n 3, 1) := by decide +kernel
theorem dX8_clear_17 : decode cX8_clear 17 = .ok (.aload_n 2, 1) := by decide +kernel
theorem dX8_clear_18 : decode cX8_clear 18 = .ok (.iconst 0, 1) := by decide +kernel
theorem dX8_clear_19 : decode cX8_clear 19 = .ok (.invokevirtual 83, 3) := by decide +kernel
theorem dX8_clear_2 : decode cX8_clear 2 = .ok (.invokevirtual 128, 3) := by decide +kernel
theorem dX8_clear_22 : decode cX8_clear 22 = .ok (.pop, 1) := by decide +kernel
theorem dX8_clear_23 : decode cX8_clear 23 = .ok (.iload_n 3, 1) := by decide +kernel
theorem dX8_clear_24 : decode cX8_clear 24 = .ok (.ireturn, 1) := by decide +kernel
theorem dX8_clear_5 : decode cX8_clear 5 = .ok (.astore_n 2, 1) := by decide +kernel
theorem dX8_clear_6 : decode cX8_clear 6 = .ok (.aload_n 2, 1) := by decide +kernel
theorem dX8_clear_7 : decode cX8_clear 7 = .ok (.ifnonnull 5, 3) := by decide +kernel
theorem dX8_drop_0 : decode cX8_drop 0 = .ok (.aload_n 0, 1) := by decide +kernel
theorem dX8_drop_1 : decode cX8_drop 1 = .ok (.iload_n 1, 1) := by decide +kernel
theorem dX8_drop_11 : decode cX8_drop 11 = .ok (.iload_n 2, 1) := by decide +kernel
theorem dX8_drop_12 : decode cX8_drop 12 = .ok (.invokestatic 136, 3) := by decide +kernel
theorem dX8_drop_15 : decode cX8_drop 15 = .ok (.astore 5, 2) := by decide +kernel
theorem dX8_drop_17 : decode cX8_drop 17 = .ok (.aload_n 0, 1) := by decide +kernel
theorem dX8_drop_18 : decode cX8_drop 18 = .ok (.iload_n 2, 1) := by decide +kernel
theorem dX8_drop_19 : decode cX8_drop 19 = .ok (.iload_n 3, 1) := by decide +kernel
theorem dX8_drop_2 : decode cX8_drop 2 = .ok (.invokevirtual 128, 3) := by decide +kernel
theorem dX8_drop_20 : decode cX8_drop 20 = .ok (.invokevirtual 100, 3) := by decide +kernel
theorem dX8_drop_23 : decode cX8_drop 23 = .ok (.astore 6, 2) := by decide +kernel
theorem dX8_drop_25 : decode cX8_drop 25 = .ok (.aload 4, 2) := by decide +kernel
theorem dX8_drop_27 : decode cX8_drop 27 = .ok (.ifnull 21, 3) := by decide +kernel
theorem dX8_drop_30 : decode cX8_drop 30 = .ok (.aload 5, 2) := by decide +kernel
theorem dX8_drop_32 : decode cX8_drop 32 = .ok (.ifnull 16, 3) := by decide +kernel
theorem dX8_drop_35 : decode cX8_drop 35 = .ok (.aload 6, 2) := by decide +kernel
theorem dX8_drop_37 : decode cX8_drop 37 = .ok (.ifnull 11, 3) := by decide +kernel
theorem dX8_drop_40 : decode cX8_drop 40 = .ok (.aload 6, 2) := by decide +kernel
theorem dX8_drop_42 : decode cX8_drop 42 = .ok (.getfield 104, 3) := by decide +kernel
theorem dX8_drop_45 : decode cX8_drop 45 = .ok (.ifCond .ne 5, 3) := by decide +kernel
theorem dX8_drop_48 : decode cX8_drop 48 = .ok (.iconst (-1), 1) := by decide +kernel
theorem dX8_drop_49 : decode cX8_drop 49 = .ok (.ireturn, 1) := by decide +kernel
theorem dX8_drop_5 : decode cX8_drop 5 = .ok (.astore 4, 2) := by decide +kernel
theorem dX8_drop_50 : decode cX8_drop 50 = .ok (.aload_n 0, 1) := by decide +kernel
theorem dX8_drop_51 : decode cX8_drop 51 = .ok (.getfield 42, 3) := by decide +kernel
theorem dX8_drop_54 : decode cX8_drop 54 = .ok (.aload 4, 2) := by decide +kernel
theorem dX8_drop_56 : decode cX8_drop 56 = .ok (.aload 5, 2) := by decide +kernel
theorem dX8_drop_58 : decode cX8_drop 58 = .ok (.invokevirtual 144, 3) := by decide +kernel
theorem dX8_drop_61 : decode cX8_drop 61 = .ok (.ifCond .ne 6, 3) := by decide +kernel
theorem dX8_drop_64 : decode cX8_drop 64 = .ok (.bipush (-2), 2) := by decide +kernel
theorem dX8_drop_66 : decode cX8_drop 66 = .ok (.ireturn, 1) := by decide +kernel
theorem dX8_drop_67 : decode cX8_drop 67 = .ok (.aload_n 0, 1) := by decide +kernel
theorem dX8_drop_68 : decode cX8_drop 68 = .ok (.getfield 60, 3) := by decide +kernel
theorem dX8_drop_7 : decode cX8_drop 7 = .ok (.aload_n 0, 1) := by decide +kernel
theorem dX8_drop_71 : decode cX8_drop 71 = .ok (.iconst 0, 1) := by decide +kernel
theorem dX8_drop_72 : decode cX8_drop 72 = .ok (.invokevirtual 83, 3) := by decide +kernel
theorem dX8_drop_75 : decode cX8_drop 75 = .ok (.pop, 1) := by decide +kernel
theorem dX8_drop_76 : decode cX8_drop 76 = .ok (.aload_n 0, 1) := by decide +kernel
theorem dX8_drop_77 : decode cX8_drop 77 = .ok (.aload 4, 2) := by decide +kernel
theorem dX8_drop_79 : decode cX8_drop 79 = .ok (.aload 5, 2) := by decide +kernel
theorem dX8_drop_8 : decode cX8_drop 8 = .ok (.getfield 24, 3) := by decide +kernel
theorem dX8_drop_81 : decode cX8_drop 81 = .ok (.iload_n 3, 1) := by decide +kernel
theorem dX8_drop_82 : decode cX8_drop 82 = .ok (.iconst 0, 1) := by decide +kernel
theorem dX8_drop_83 : decode cX8_drop 83 = .ok (.invokevirtual 160, 3) := by decide +kernel
theorem dX8_drop_86 : decode cX8_drop 86 = .ok (.ireturn, 1) := by decide +kernel
theorem dX8_end_0 : decode cX8_end 0 = .ok (.aload_n 0, 1) := by decide +kernel
theorem dX8_end_1 : decode cX8_end 1 = .ok (.getfield 14, 3) := by decide +kernel
theorem dX8_end_4 : decode cX8_end 4 = .ok (.iload_n 1, 1) := by decide +kernel
theorem dX8_end_5 : decode cX8_end 5 = .ok (.invokevirtual 83, 3) := by decide +kernel
theorem dX8_end_8 : decode cX8_end 8 = .ok (.ireturn, 1) := by decide +kernel
theorem dX8_fault_0 : decode cX8_fault 0 = .ok (.iload_n 1, 1) := by decide +kernel
theorem dX8_fault_1 : decode cX8_fault 1 = .ok (.ifCond .ne 8, 3) := by decide +kernel
theorem dX8_fault_10 : decode cX8_fault 10 = .ok (.iconst 1, 1) := by decide +kernel
theorem dX8_fault_11 : decode cX8_fault 11 = .ok (.if_icmp .ne 10, 3) := by decide +kernel
theorem dX8_fault_14 : decode cX8_fault 14 = .ok (.aload_n 0, 1) := by decide +kernel
theorem dX8_fault_15 : decode cX8_fault 15 = .ok (.getfield 70, 3) := by decide +kernel
theorem dX8_fault_18 : decode cX8_fault 18 = .ok (.goto 4, 3) := by decide +kernel
theorem dX8_fault_21 : decode cX8_fault 21 = .ok (.iconst (-1), 1) := by decide +kernel
theorem dX8_fault_22 : decode cX8_fault 22 = .ok (.ireturn, 1) := by decide +kernel
theorem dX8_fault_4 : decode cX8_fault 4 = .ok (.aload_n 0, 1) := by decide +kernel
theorem dX8_fault_5 : decode cX8_fault 5 = .ok (.getfield 66, 3) := by decide +kernel
theorem dX8_fault_8 : decode cX8_fault 8 = .ok (.ireturn, 1) := by decide +kernel
theorem dX8_fault_9 : decode cX8_fault 9 = .ok (.iload_n 1, 1) := by decide +kernel
theorem dX8_feed_0 : decode cX8_feed 0 = .ok (.aload_n 0, 1) := by decide +kernel
theorem dX8_feed_1 : decode cX8_feed 1 = .ok (.getfield 14, 3) := by decide +kernel
theorem dX8_feed_10 : decode cX8_feed 10 = .ok (.sipush 400, 3) := by decide +kernel
theorem dX8_feed_13 : decode cX8_feed 13 = .ok (.if_icmp .le 5, 3) := by decide +kernel
theorem dX8_feed_16 : decode cX8_feed 16 = .ok (.iconst (-1), 1) := by decide +kernel
theorem dX8_feed_17 : decode cX8_feed 17 = .ok (.ireturn, 1) := by decide +kernel
theorem dX8_feed_18 : decode cX8_feed 18 = .ok (.aload_n 0, 1) := by decide +kernel
theorem dX8_feed_19 : decode cX8_feed 19 = .ok (.getfield 14, 3) := by decide +kernel
theorem dX8_feed_22 : decode cX8_feed 22 = .ok (.iload_n 1, 1) := by decide +kernel
theorem dX8_feed_23 : decode cX8_feed 23 = .ok (.invokevirtual 80, 3) := by decide +kernel
theorem dX8_feed_26 : decode cX8_feed 26 = .ok (.aload_n 0, 1) := by decide +kernel
theorem dX8_feed_27 : decode cX8_feed 27 = .ok (.getfield 14, 3) := by decide +kernel
theorem dX8_feed_30 : decode cX8_feed 30 = .ok (.iload_n 2, 1) := by decide +kernel
theorem dX8_feed_31 : decode cX8_feed 31 = .ok (.invokevirtual 80, 3) := by decide +kernel
theorem dX8_feed_34 : decode cX8_feed 34 = .ok (.aload_n 0, 1) := by decide +kernel
theorem dX8_feed_35 : decode cX8_feed 35 = .ok (.getfield 14, 3) := by decide +kernel
theorem dX8_feed_38 : decode cX8_feed 38 = .ok (.iload_n 3, 1) := by decide +kernel
theorem dX8_feed_39 : decode cX8_feed 39 = .ok (.invokevirtual 80, 3) := by decide +kernel
theorem dX8_feed_4 : decode cX8_feed 4 = .ok (.invokevirtual 76, 3) := by decide +kernel
theorem dX8_feed_42 : decode cX8_feed 42 = .ok (.aload_n 0, 1) := by decide +kernel
theorem dX8_feed_43 : decode cX8_feed 43 = .ok (.getfield 14, 3) := by decide +kernel
theorem dX8_feed_46 : decode cX8_feed 46 = .ok (.iload 4, 2) := by decide +kernel
theorem dX8_feed_48 : decode cX8_feed 48 = .ok (.invokevirtual 80, 3) := by decide +kernel
theorem dX8_feed_51 : decode cX8_feed 51 = .ok (.aload_n 0, 1) := by decide +kernel
theorem dX8_feed_52 : decode cX8_feed 52 = .ok (.getfield 14, 3) := by decide +kernel
theorem dX8_feed_55 : decode cX8_feed 55 = .ok (.iload 5, 2) := by decide +kernel
theorem dX8_feed_57 : decode cX8_feed 57 = .ok (.invokevirtual 80, 3) := by decide +kernel
theorem dX8_feed_60 : decode cX8_feed 60 = .ok (.aload_n 0, 1) := by decide +kernel
theorem dX8_feed_61 : decode cX8_feed 61 = .ok (.getfield 14, 3) := by decide +kernel
theorem dX8_feed_64 : decode cX8_feed 64 = .ok (.invokevirtual 76, 3) := by decide +kernel
theorem dX8_feed_67 : decode cX8_feed 67 = .ok (.ireturn, 1) := by decide +kernel
theorem dX8_feed_7 : decode cX8_feed 7 = .ok (.bipush 20, 2) := by decide +kernel
theorem dX8_feed_9 : decode cX8_feed 9 = .ok (.iadd, 1) := by decide +kernel
theorem dX8_fieldOf_0 : decode cX8_fieldOf 0 = .ok (.aload_n 0, 1) := by decide +kernel
theorem dX8_fieldOf_1 : decode cX8_fieldOf 1 = .ok (.getfield 24, 3) := by decide +kernel
theorem dX8_fieldOf_10 : decode cX8_fieldOf 10 = .ok (.ifnonnull 7, 3) := by decide +kernel
theorem dX8_fieldOf_13 : decode cX8_fieldOf 13 = .ok (.aconst_null, 1) := by decide +kernel
theorem dX8_fieldOf_14 : decode cX8_fieldOf 14 = .ok (.goto 8, 3) := by decide +kernel
theorem dX8_fieldOf_17 : decode cX8_fieldOf 17 = .ok (.aload_n 3, 1) := by decide +kernel
theorem dX8_fieldOf_18 : decode cX8_fieldOf 18 = .ok (.iload_n 2, 1) := by decide +kernel
theorem dX8_fieldOf_19 : decode cX8_fieldOf 19 = .ok (.invokevirtual 225, 3) := by decide +kernel
theorem dX8_fieldOf_22 : decode cX8_fieldOf 22 = .ok (.areturn, 1) := by decide +kernel
theorem dX8_fieldOf_4 : decode cX8_fieldOf 4 = .ok (.iload_n 1, 1) := by decide +kernel
theorem dX8_fieldOf_5 : decode cX8_fieldOf 5 = .ok (.invokestatic 136, 3) := by decide +kernel
theorem dX8_fieldOf_8 : decode cX8_fieldOf 8 = .ok (.astore_n 3, 1) := by decide +kernel
theorem dX8_fieldOf_9 : decode cX8_fieldOf 9 = .ok (.aload_n 3, 1) := by decide +kernel
theorem dX8_field_0 : decode cX8_field 0 = .ok (.aload_n 0, 1) := by decide +kernel
theorem dX8_field_1 : decode cX8_field 1 = .ok (.iload_n 1, 1) := by decide +kernel
theorem dX8_field_10 : decode cX8_field 10 = .ok (.ifnonnull 5, 3) := by decide +kernel
theorem dX8_field_13 : decode cX8_field 13 = .ok (.iconst (-1), 1) := by decide +kernel
theorem dX8_field_14 : decode cX8_field 14 = .ok (.ireturn, 1) := by decide +kernel
theorem dX8_field_15 : decode cX8_field 15 = .ok (.iload_n 3, 1) := by decide +kernel
theorem dX8_field_16 : decode cX8_field 16 = .ok (.tableswitch 59 0 3 #[32, 38, 44, 50], 32) := by decide +kernel
theorem dX8_field_2 : decode cX8_field 2 = .ok (.iload_n 2, 1) := by decide +kernel
theorem dX8_field_3 : decode cX8_field 3 = .ok (.invokevirtual 100, 3) := by decide +kernel
theorem dX8_field_48 : decode cX8_field 48 = .ok (.aload 4, 2) := by decide +kernel
theorem dX8_field_50 : decode cX8_field 50 = .ok (.getfield 104, 3) := by decide +kernel
theorem dX8_field_53 : decode cX8_field 53 = .ok (.ireturn, 1) := by decide +kernel
theorem dX8_field_54 : decode cX8_field 54 = .ok (.aload 4, 2) := by decide +kernel
theorem dX8_field_56 : decode cX8_field 56 = .ok (.getfield 109, 3) := by decide +kernel
theorem dX8_field_59 : decode cX8_field 59 = .ok (.ireturn, 1) := by decide +kernel
theorem dX8_field_6 : decode cX8_field 6 = .ok (.astore 4, 2) := by decide +kernel
theorem dX8_field_60 : decode cX8_field 60 = .ok (.aload 4, 2) := by decide +kernel
theorem dX8_field_62 : decode cX8_field 62 = .ok (.getfield 112, 3) := by decide +kernel
theorem dX8_field_65 : decode cX8_field 65 = .ok (.ireturn, 1) := by decide +kernel
theorem dX8_field_66 : decode cX8_field 66 = .ok (.aload 4, 2) := by decide +kernel
theorem dX8_field_68 : decode cX8_field 68 = .ok (.getfield 115, 3) := by decide +kernel
theorem dX8_field_71 : decode cX8_field 71 = .ok (.invokevirtual 119, 3) := by decide +kernel
theorem dX8_field_74 : decode cX8_field 74 = .ok (.ireturn, 1) := by decide +kernel
theorem dX8_field_75 : decode cX8_field 75 = .ok (.iconst (-1), 1) := by decide +kernel
theorem dX8_field_76 : decode cX8_field 76 = .ok (.ireturn, 1) := by decide +kernel
theorem dX8_field_8 : decode cX8_field 8 = .ok (.aload 4, 2) := by decide +kernel
theorem dX8_get_0 : decode cX8_get 0 = .ok (.aload_n 0, 1) := by decide +kernel
theorem dX8_get_1 : decode cX8_get 1 = .ok (.iload_n 1, 1) := by decide +kernel
theorem dX8_get_102 : decode cX8_get 102 = .ok (.aload 8, 2) := by decide +kernel
theorem dX8_get_104 : decode cX8_get 104 = .ok (.ifnonnull 7, 3) := by decide +kernel
theorem dX8_get_107 : decode cX8_get 107 = .ok (.lconst 0, 1) := by decide +kernel
theorem dX8_get_108 : decode cX8_get 108 = .ok (.goto 4, 3) := by decide +kernel
theorem dX8_get_11 : decode cX8_get 11 = .ok (.iload_n 2, 1) := by decide +kernel
theorem dX8_get_111 : decode cX8_get 111 = .ok (.lconst 1, 1) := by decide +kernel
theorem dX8_get_112 : decode cX8_get 112 = .ok (.lreturn, 1) := by decide +kernel
theorem dX8_get_113 : decode cX8_get 113 = .ok (.aload 8, 2) := by decide +kernel
theorem dX8_get_115 : decode cX8_get 115 = .ok (.ifnonnull 11, 3) := by decide +kernel
theorem dX8_get_118 : decode cX8_get 118 = .ok (.aload 7, 2) := by decide +kernel
theorem dX8_get_12 : decode cX8_get 12 = .ok (.invokestatic 136, 3) := by decide +kernel
theorem dX8_get_120 : decode cX8_get 120 = .ok (.invokevirtual 124, 3) := by decide +kernel
theorem dX8_get_123 : decode cX8_get 123 = .ok (.goto 8, 3) := by decide +kernel
theorem dX8_get_126 : decode cX8_get 126 = .ok (.aload 8, 2) := by decide +kernel
theorem dX8_get_128 : decode cX8_get 128 = .ok (.invokevirtual 190, 3) := by decide +kernel
theorem dX8_get_131 : decode cX8_get 131 = .ok (.lreturn, 1) := by decide +kernel
theorem dX8_get_15 : decode cX8_get 15 = .ok (.astore 6, 2) := by decide +kernel
theorem dX8_get_17 : decode cX8_get 17 = .ok (.aload_n 0, 1) := by decide +kernel
theorem dX8_get_18 : decode cX8_get 18 = .ok (.iload_n 2, 1) := by decide +kernel
theorem dX8_get_19 : decode cX8_get 19 = .ok (.iload_n 3, 1) := by decide +kernel
theorem dX8_get_2 : decode cX8_get 2 = .ok (.invokevirtual 128, 3) := by decide +kernel
theorem dX8_get_20 : decode cX8_get 20 = .ok (.invokevirtual 100, 3) := by decide +kernel
theorem dX8_get_23 : decode cX8_get 23 = .ok (.astore 7, 2) := by decide +kernel
theorem dX8_get_25 : decode cX8_get 25 = .ok (.aload 5, 2) := by decide +kernel
theorem dX8_get_27 : decode cX8_get 27 = .ok (.ifnull 24, 3) := by decide +kernel
theorem dX8_get_30 : decode cX8_get 30 = .ok (.aload 6, 2) := by decide +kernel
theorem dX8_get_32 : decode cX8_get 32 = .ok (.ifnull 19, 3) := by decide +kernel
theorem dX8_get_35 : decode cX8_get 35 = .ok (.aload 7, 2) := by decide +kernel
theorem dX8_get_37 : decode cX8_get 37 = .ok (.ifnull 14, 3) := by decide +kernel
theorem dX8_get_40 : decode cX8_get 40 = .ok (.iload 4, 2) := by decide +kernel
theorem dX8_get_42 : decode cX8_get 42 = .ok (.ifCond .lt 9, 3) := by decide +kernel
theorem dX8_get_45 : decode cX8_get 45 = .ok (.iload 4, 2) := by decide +kernel
theorem dX8_get_47 : decode cX8_get 47 = .ok (.iconst 1, 1) := by decide +kernel
theorem dX8_get_48 : decode cX8_get 48 = .ok (.if_icmp .le 7, 3) := by decide +kernel
theorem dX8_get_5 : decode cX8_get 5 = .ok (.astore 5, 2) := by decide +kernel
theorem dX8_get_51 : decode cX8_get 51 = .ok (.ldc2_w 184, 3) := by decide +kernel
theorem dX8_get_54 : decode cX8_get 54 = .ok (.lreturn, 1) := by decide +kernel
theorem dX8_get_55 : decode cX8_get 55 = .ok (.aload_n 0, 1) := by decide +kernel
theorem dX8_get_56 : decode cX8_get 56 = .ok (.getfield 42, 3) := by decide +kernel
theorem dX8_get_59 : decode cX8_get 59 = .ok (.aload 5, 2) := by decide +kernel
theorem dX8_get_61 : decode cX8_get 61 = .ok (.aload 6, 2) := by decide +kernel
theorem dX8_get_63 : decode cX8_get 63 = .ok (.invokevirtual 144, 3) := by decide +kernel
theorem dX8_get_66 : decode cX8_get 66 = .ok (.ifCond .ne 7, 3) := by decide +kernel
theorem dX8_get_69 : decode cX8_get 69 = .ok (.ldc2_w 184, 3) := by decide +kernel
theorem dX8_get_7 : decode cX8_get 7 = .ok (.aload_n 0, 1) := by decide +kernel
theorem dX8_get_72 : decode cX8_get 72 = .ok (.lreturn, 1) := by decide +kernel
theorem dX8_get_73 : decode cX8_get 73 = .ok (.aload 7, 2) := by decide +kernel
theorem dX8_get_75 : decode cX8_get 75 = .ok (.getfield 104, 3) := by decide +kernel
theorem dX8_get_78 : decode cX8_get 78 = .ok (.ifCond .ne 7, 3) := by decide +kernel
theorem dX8_get_8 : decode cX8_get 8 = .ok (.getfield 24, 3) := by decide +kernel
theorem dX8_get_81 : decode cX8_get 81 = .ok (.aconst_null, 1) := by decide +kernel
theorem dX8_get_82 : decode cX8_get 82 = .ok (.goto 13, 3) := by decide +kernel
theorem dX8_get_85 : decode cX8_get 85 = .ok (.aload_n 0, 1) := by decide +kernel
theorem dX8_get_86 : decode cX8_get 86 = .ok (.getfield 42, 3) := by decide +kernel
theorem dX8_get_89 : decode cX8_get 89 = .ok (.aload 5, 2) := by decide +kernel
theorem dX8_get_91 : decode cX8_get 91 = .ok (.iload_n 3, 1) := by decide +kernel
theorem dX8_get_92 : decode cX8_get 92 = .ok (.invokevirtual 186, 3) := by decide +kernel
theorem dX8_get_95 : decode cX8_get 95 = .ok (.astore 8, 2) := by decide +kernel
theorem dX8_get_97 : decode cX8_get 97 = .ok (.iload 4, 2) := by decide +kernel
theorem dX8_get_99 : decode cX8_get 99 = .ok (.ifCond .ne 14, 3) := by decide +kernel
theorem dX8_kept_0 : decode cX8_kept 0 = .ok (.aload_n 0, 1) := by decide +kernel
theorem dX8_kept_1 : decode cX8_kept 1 = .ok (.iload_n 1, 1) := by decide +kernel
theorem dX8_kept_10 : decode cX8_kept 10 = .ok (.iload_n 2, 1) := by decide +kernel
theorem dX8_kept_11 : decode cX8_kept 11 = .ok (.invokestatic 136, 3) := by decide +kernel
theorem dX8_kept_14 : decode cX8_kept 14 = .ok (.astore 4, 2) := by decide +kernel
theorem dX8_kept_16 : decode cX8_kept 16 = .ok (.aload_n 3, 1) := by decide +kernel
theorem dX8_kept_17 : decode cX8_kept 17 = .ok (.ifnull 21, 3) := by decide +kernel
theorem dX8_kept_2 : decode cX8_kept 2 = .ok (.invokevirtual 128, 3) := by decide +kernel
theorem dX8_kept_20 : decode cX8_kept 20 = .ok (.aload 4, 2) := by decide +kernel
theorem dX8_kept_22 : decode cX8_kept 22 = .ok (.ifnull 16, 3) := by decide +kernel
theorem dX8_kept_25 : decode cX8_kept 25 = .ok (.aload_n 0, 1) := by decide +kernel
theorem dX8_kept_26 : decode cX8_kept 26 = .ok (.getfield 42, 3) := by decide +kernel
theorem dX8_kept_29 : decode cX8_kept 29 = .ok (.aload_n 3, 1) := by decide +kernel
theorem dX8_kept_30 : decode cX8_kept 30 = .ok (.aload 4, 2) := by decide +kernel
theorem dX8_kept_32 : decode cX8_kept 32 = .ok (.invokevirtual 144, 3) := by decide +kernel
theorem dX8_kept_35 : decode cX8_kept 35 = .ok (.ifCond .ne 5, 3) := by decide +kernel
theorem dX8_kept_38 : decode cX8_kept 38 = .ok (.iconst (-1), 1) := by decide +kernel
theorem dX8_kept_39 : decode cX8_kept 39 = .ok (.ireturn, 1) := by decide +kernel
theorem dX8_kept_40 : decode cX8_kept 40 = .ok (.aload_n 0, 1) := by decide +kernel
theorem dX8_kept_41 : decode cX8_kept 41 = .ok (.getfield 42, 3) := by decide +kernel
theorem dX8_kept_44 : decode cX8_kept 44 = .ok (.aload_n 3, 1) := by decide +kernel
theorem dX8_kept_45 : decode cX8_kept 45 = .ok (.aload 4, 2) := by decide +kernel
theorem dX8_kept_47 : decode cX8_kept 47 = .ok (.iconst 0, 1) := by decide +kernel
theorem dX8_kept_48 : decode cX8_kept 48 = .ok (.invokevirtual 180, 3) := by decide +kernel
theorem dX8_kept_5 : decode cX8_kept 5 = .ok (.astore_n 3, 1) := by decide +kernel
theorem dX8_kept_51 : decode cX8_kept 51 = .ok (.ireturn, 1) := by decide +kernel
theorem dX8_kept_6 : decode cX8_kept 6 = .ok (.aload_n 0, 1) := by decide +kernel
theorem dX8_kept_7 : decode cX8_kept 7 = .ok (.getfield 24, 3) := by decide +kernel
theorem dX8_load_0 : decode cX8_load 0 = .ok (.aload_n 0, 1) := by decide +kernel
theorem dX8_load_1 : decode cX8_load 1 = .ok (.iload_n 1, 1) := by decide +kernel
theorem dX8_load_10 : decode cX8_load 10 = .ok (.aload_n 0, 1) := by decide +kernel
theorem dX8_load_11 : decode cX8_load 11 = .ok (.getfield 14, 3) := by decide +kernel
theorem dX8_load_14 : decode cX8_load 14 = .ok (.invokevirtual 76, 3) := by decide +kernel
theorem dX8_load_17 : decode cX8_load 17 = .ok (.bipush 120, 2) := by decide +kernel
theorem dX8_load_19 : decode cX8_load 19 = .ok (.if_icmp .le 5, 3) := by decide +kernel
theorem dX8_load_2 : decode cX8_load 2 = .ok (.invokevirtual 128, 3) := by decide +kernel
theorem dX8_load_22 : decode cX8_load 22 = .ok (.iconst (-1), 1) := by decide +kernel
theorem dX8_load_23 : decode cX8_load 23 = .ok (.ireturn, 1) := by decide +kernel
theorem dX8_load_24 : decode cX8_load 24 = .ok (.aload_n 2, 1) := by decide +kernel
theorem dX8_load_25 : decode cX8_load 25 = .ok (.aload_n 0, 1) := by decide +kernel
theorem dX8_load_26 : decode cX8_load 26 = .ok (.getfield 14, 3) := by decide +kernel
theorem dX8_load_29 : decode cX8_load 29 = .ok (.iconst 0, 1) := by decide +kernel
theorem dX8_load_30 : decode cX8_load 30 = .ok (.aload_n 0, 1) := by decide +kernel
theorem dX8_load_31 : decode cX8_load 31 = .ok (.getfield 14, 3) := by decide +kernel
theorem dX8_load_34 : decode cX8_load 34 = .ok (.invokevirtual 76, 3) := by decide +kernel
theorem dX8_load_37 : decode cX8_load 37 = .ok (.invokevirtual 132, 3) := by decide +kernel
theorem dX8_load_40 : decode cX8_load 40 = .ok (.aload_n 0, 1) := by decide +kernel
theorem dX8_load_41 : decode cX8_load 41 = .ok (.getfield 14, 3) := by decide +kernel
theorem dX8_load_44 : decode cX8_load 44 = .ok (.iconst 0, 1) := by decide +kernel
theorem dX8_load_45 : decode cX8_load 45 = .ok (.invokevirtual 83, 3) := by decide +kernel
theorem dX8_load_48 : decode cX8_load 48 = .ok (.pop, 1) := by decide +kernel
theorem dX8_load_49 : decode cX8_load 49 = .ok (.aload_n 2, 1) := by decide +kernel
theorem dX8_load_5 : decode cX8_load 5 = .ok (.astore_n 2, 1) := by decide +kernel
theorem dX8_load_50 : decode cX8_load 50 = .ok (.invokevirtual 76, 3) := by decide +kernel
theorem dX8_load_53 : decode cX8_load 53 = .ok (.ireturn, 1) := by decide +kernel
theorem dX8_load_6 : decode cX8_load 6 = .ok (.aload_n 2, 1) := by decide +kernel
theorem dX8_load_7 : decode cX8_load 7 = .ok (.ifnull 15, 3) := by decide +kernel
theorem dX8_lookAlong_0 : decode cX8_lookAlong 0 = .ok (.aload_n 0, 1) := by decide +kernel
theorem dX8_lookAlong_1 : decode cX8_lookAlong 1 = .ok (.getfield 24, 3) := by decide +kernel
theorem dX8_lookAlong_10 : decode cX8_lookAlong 10 = .ok (.aload_n 0, 1) := by decide +kernel
theorem dX8_lookAlong_11 : decode cX8_lookAlong 11 = .ok (.getfield 24, 3) := by decide +kernel
theorem dX8_lookAlong_14 : decode cX8_lookAlong 14 = .ok (.iload_n 2, 1) := by decide +kernel
theorem dX8_lookAlong_15 : decode cX8_lookAlong 15 = .ok (.invokestatic 136, 3) := by decide +kernel
theorem dX8_lookAlong_18 : decode cX8_lookAlong 18 = .ok (.astore 5, 2) := by decide +kernel
theorem dX8_lookAlong_20 : decode cX8_lookAlong 20 = .ok (.aload_n 0, 1) := by decide +kernel
theorem dX8_lookAlong_21 : decode cX8_lookAlong 21 = .ok (.getfield 24, 3) := by decide +kernel
theorem dX8_lookAlong_24 : decode cX8_lookAlong 24 = .ok (.iload_n 3, 1) := by decide +kernel
theorem dX8_lookAlong_25 : decode cX8_lookAlong 25 = .ok (.invokestatic 136, 3) := by decide +kernel
theorem dX8_lookAlong_28 : decode cX8_lookAlong 28 = .ok (.astore 6, 2) := by decide +kernel
theorem dX8_lookAlong_30 : decode cX8_lookAlong 30 = .ok (.aload 4, 2) := by decide +kernel
theorem dX8_lookAlong_32 : decode cX8_lookAlong 32 = .ok (.ifnull 13, 3) := by decide +kernel
theorem dX8_lookAlong_35 : decode cX8_lookAlong 35 = .ok (.aload 5, 2) := by decide +kernel
theorem dX8_lookAlong_37 : decode cX8_lookAlong 37 = .ok (.ifnull 8, 3) := by decide +kernel
theorem dX8_lookAlong_4 : decode cX8_lookAlong 4 = .ok (.iload_n 1, 1) := by decide +kernel
theorem dX8_lookAlong_40 : decode cX8_lookAlong 40 = .ok (.aload 6, 2) := by decide +kernel
theorem dX8_lookAlong_42 : decode cX8_lookAlong 42 = .ok (.ifnonnull 5, 3) := by decide +kernel
theorem dX8_lookAlong_45 : decode cX8_lookAlong 45 = .ok (.iconst (-1), 1) := by decide +kernel
theorem dX8_lookAlong_46 : decode cX8_lookAlong 46 = .ok (.ireturn, 1) := by decide +kernel
theorem dX8_lookAlong_47 : decode cX8_lookAlong 47 = .ok (.aload_n 0, 1) := by decide +kernel
theorem dX8_lookAlong_48 : decode cX8_lookAlong 48 = .ok (.aload_n 0, 1) := by decide +kernel
theorem dX8_lookAlong_49 : decode cX8_lookAlong 49 = .ok (.getfield 56, 3) := by decide +kernel
theorem dX8_lookAlong_5 : decode cX8_lookAlong 5 = .ok (.invokestatic 136, 3) := by decide +kernel
theorem dX8_lookAlong_52 : decode cX8_lookAlong 52 = .ok (.aload 4, 2) := by decide +kernel
theorem dX8_lookAlong_54 : decode cX8_lookAlong 54 = .ok (.aload 5, 2) := by decide +kernel
theorem dX8_lookAlong_56 : decode cX8_lookAlong 56 = .ok (.aload 6, 2) := by decide +kernel
theorem dX8_lookAlong_58 : decode cX8_lookAlong 58 = .ok (.iconst 1, 1) := by decide +kernel
theorem dX8_lookAlong_59 : decode cX8_lookAlong 59 = .ok (.iconst 0, 1) := by decide +kernel
theorem dX8_lookAlong_60 : decode cX8_lookAlong 60 = .ok (.invokevirtual 213, 3) := by decide +kernel
theorem dX8_lookAlong_63 : decode cX8_lookAlong 63 = .ok (.putfield 73, 3) := by decide +kernel
theorem dX8_lookAlong_66 : decode cX8_lookAlong 66 = .ok (.aload_n 0, 1) := by decide +kernel
theorem dX8_lookAlong_67 : decode cX8_lookAlong 67 = .ok (.getfield 56, 3) := by decide +kernel
theorem dX8_lookAlong_70 : decode cX8_lookAlong 70 = .ok (.aload_n 0, 1) := by decide +kernel
theorem dX8_lookAlong_71 : decode cX8_lookAlong 71 = .ok (.getfield 73, 3) := by decide +kernel
theorem dX8_lookAlong_74 : decode cX8_lookAlong 74 = .ok (.aload 4, 2) := by decide +kernel
theorem dX8_lookAlong_76 : decode cX8_lookAlong 76 = .ok (.aload 5, 2) := by decide +kernel
theorem dX8_lookAlong_78 : decode cX8_lookAlong 78 = .ok (.aload 6, 2) := by decide +kernel
theorem dX8_lookAlong_8 : decode cX8_lookAlong 8 = .ok (.astore 4, 2) := by decide +kernel
theorem dX8_lookAlong_80 : decode cX8_lookAlong 80 = .ok (.iconst 1, 1) := by decide +kernel
theorem dX8_lookAlong_81 : decode cX8_lookAlong 81 = .ok (.iconst 0, 1) := by decide +kernel
theorem dX8_lookAlong_82 : decode cX8_lookAlong 82 = .ok (.invokevirtual 217, 3) := by decide +kernel
theorem dX8_lookAlong_85 : decode cX8_lookAlong 85 = .ok (.ireturn, 1) := by decide +kernel
theorem dX8_nest_0 : decode cX8_nest 0 = .ok (.aload_n 0, 1) := by decide +kernel
theorem dX8_nest_1 : decode cX8_nest 1 = .ok (.iload_n 1, 1) := by decide +kernel
theorem dX8_nest_10 : decode cX8_nest 10 = .ok (.invokevirtual 128, 3) := by decide +kernel
theorem dX8_nest_100 : decode cX8_nest 100 = .ok (.invokevirtual 144, 3) := by decide +kernel
theorem dX8_nest_103 : decode cX8_nest 103 = .ok (.ifCond .eq 17, 3) := by decide +kernel
theorem dX8_nest_106 : decode cX8_nest 106 = .ok (.aload_n 0, 1) := by decide +kernel
theorem dX8_nest_107 : decode cX8_nest 107 = .ok (.getfield 42, 3) := by decide +kernel
theorem dX8_nest_110 : decode cX8_nest 110 = .ok (.aload 6, 2) := by decide +kernel
theorem dX8_nest_112 : decode cX8_nest 112 = .ok (.aload 9, 2) := by decide +kernel
theorem dX8_nest_114 : decode cX8_nest 114 = .ok (.invokevirtual 144, 3) := by decide +kernel
theorem dX8_nest_117 : decode cX8_nest 117 = .ok (.ifCond .ne 6, 3) := by decide +kernel
theorem dX8_nest_120 : decode cX8_nest 120 = .ok (.bipush (-2), 2) := by decide +kernel
theorem dX8_nest_122 : decode cX8_nest 122 = .ok (.ireturn, 1) := by decide +kernel
theorem dX8_nest_123 : decode cX8_nest 123 = .ok (.aload_n 0, 1) := by decide +kernel
theorem dX8_nest_124 : decode cX8_nest 124 = .ok (.getfield 49, 3) := by decide +kernel
theorem dX8_nest_127 : decode cX8_nest 127 = .ok (.aload 6, 2) := by decide +kernel
theorem dX8_nest_129 : decode cX8_nest 129 = .ok (.aload 9, 2) := by decide +kernel
theorem dX8_nest_13 : decode cX8_nest 13 = .ok (.astore 6, 2) := by decide +kernel
theorem dX8_nest_131 : decode cX8_nest 131 = .ok (.aload_n 0, 1) := by decide +kernel
theorem dX8_nest_132 : decode cX8_nest 132 = .ok (.getfield 63, 3) := by decide +kernel
theorem dX8_nest_135 : decode cX8_nest 135 = .ok (.invokevirtual 174, 3) := by decide +kernel
theorem dX8_nest_138 : decode cX8_nest 138 = .ok (.aload_n 0, 1) := by decide +kernel
theorem dX8_nest_139 : decode cX8_nest 139 = .ok (.getfield 60, 3) := by decide +kernel
theorem dX8_nest_142 : decode cX8_nest 142 = .ok (.iconst 0, 1) := by decide +kernel
theorem dX8_nest_143 : decode cX8_nest 143 = .ok (.invokevirtual 83, 3) := by decide +kernel
theorem dX8_nest_146 : decode cX8_nest 146 = .ok (.pop, 1) := by decide +kernel
theorem dX8_nest_147 : decode cX8_nest 147 = .ok (.aload_n 0, 1) := by decide +kernel
theorem dX8_nest_148 : decode cX8_nest 148 = .ok (.getfield 60, 3) := by decide +kernel
theorem dX8_nest_15 : decode cX8_nest 15 = .ok (.aload_n 0, 1) := by decide +kernel
theorem dX8_nest_151 : decode cX8_nest 151 = .ok (.aload 8, 2) := by decide +kernel
theorem dX8_nest_153 : decode cX8_nest 153 = .ok (.invokevirtual 152, 3) := by decide +kernel
theorem dX8_nest_156 : decode cX8_nest 156 = .ok (.aload_n 0, 1) := by decide +kernel
theorem dX8_nest_157 : decode cX8_nest 157 = .ok (.getfield 60, 3) := by decide +kernel
theorem dX8_nest_16 : decode cX8_nest 16 = .ok (.getfield 24, 3) := by decide +kernel
theorem dX8_nest_160 : decode cX8_nest 160 = .ok (.aload_n 0, 1) := by decide +kernel
theorem dX8_nest_161 : decode cX8_nest 161 = .ok (.getfield 63, 3) := by decide +kernel
theorem dX8_nest_164 : decode cX8_nest 164 = .ok (.invokevirtual 76, 3) := by decide +kernel
theorem dX8_nest_167 : decode cX8_nest 167 = .ok (.i2l, 1) := by decide +kernel
theorem dX8_nest_168 : decode cX8_nest 168 = .ok (.invokevirtual 168, 3) := by decide +kernel
theorem dX8_nest_171 : decode cX8_nest 171 = .ok (.aload_n 0, 1) := by decide +kernel
theorem dX8_nest_172 : decode cX8_nest 172 = .ok (.getfield 60, 3) := by decide +kernel
theorem dX8_nest_175 : decode cX8_nest 175 = .ok (.aload_n 0, 1) := by decide +kernel
theorem dX8_nest_176 : decode cX8_nest 176 = .ok (.getfield 63, 3) := by decide +kernel
theorem dX8_nest_179 : decode cX8_nest 179 = .ok (.iconst 0, 1) := by decide +kernel
theorem dX8_nest_180 : decode cX8_nest 180 = .ok (.aload_n 0, 1) := by decide +kernel
theorem dX8_nest_181 : decode cX8_nest 181 = .ok (.getfield 63, 3) := by decide +kernel
theorem dX8_nest_184 : decode cX8_nest 184 = .ok (.invokevirtual 76, 3) := by decide +kernel
theorem dX8_nest_187 : decode cX8_nest 187 = .ok (.invokevirtual 171, 3) := by decide +kernel
theorem dX8_nest_19 : decode cX8_nest 19 = .ok (.iload_n 2, 1) := by decide +kernel
theorem dX8_nest_190 : decode cX8_nest 190 = .ok (.aload_n 0, 1) := by decide +kernel
theorem dX8_nest_191 : decode cX8_nest 191 = .ok (.aload 5, 2) := by decide +kernel
theorem dX8_nest_193 : decode cX8_nest 193 = .ok (.aload 7, 2) := by decide +kernel
theorem dX8_nest_195 : decode cX8_nest 195 = .ok (.iload_n 3, 1) := by decide +kernel
theorem dX8_nest_196 : decode cX8_nest 196 = .ok (.aload 8, 2) := by decide +kernel
theorem dX8_nest_198 : decode cX8_nest 198 = .ok (.getfield 109, 3) := by decide +kernel
theorem dX8_nest_2 : decode cX8_nest 2 = .ok (.invokevirtual 128, 3) := by decide +kernel
theorem dX8_nest_20 : decode cX8_nest 20 = .ok (.invokestatic 136, 3) := by decide +kernel
theorem dX8_nest_201 : decode cX8_nest 201 = .ok (.invokevirtual 160, 3) := by decide +kernel
theorem dX8_nest_204 : decode cX8_nest 204 = .ok (.ireturn, 1) := by decide +kernel
theorem dX8_nest_23 : decode cX8_nest 23 = .ok (.astore 7, 2) := by decide +kernel
theorem dX8_nest_25 : decode cX8_nest 25 = .ok (.aload_n 0, 1) := by decide +kernel
theorem dX8_nest_26 : decode cX8_nest 26 = .ok (.iload_n 2, 1) := by decide +kernel
theorem dX8_nest_27 : decode cX8_nest 27 = .ok (.iload_n 3, 1) := by decide +kernel
theorem dX8_nest_28 : decode cX8_nest 28 = .ok (.invokevirtual 100, 3) := by decide +kernel
theorem dX8_nest_31 : decode cX8_nest 31 = .ok (.astore 8, 2) := by decide +kernel
theorem dX8_nest_33 : decode cX8_nest 33 = .ok (.aload 5, 2) := by decide +kernel
theorem dX8_nest_35 : decode cX8_nest 35 = .ok (.ifnull 34, 3) := by decide +kernel
theorem dX8_nest_38 : decode cX8_nest 38 = .ok (.aload 6, 2) := by decide +kernel
theorem dX8_nest_40 : decode cX8_nest 40 = .ok (.ifnull 29, 3) := by decide +kernel
theorem dX8_nest_43 : decode cX8_nest 43 = .ok (.aload 7, 2) := by decide +kernel
theorem dX8_nest_45 : decode cX8_nest 45 = .ok (.ifnull 24, 3) := by decide +kernel
theorem dX8_nest_48 : decode cX8_nest 48 = .ok (.aload 8, 2) := by decide +kernel
theorem dX8_nest_5 : decode cX8_nest 5 = .ok (.astore 5, 2) := by decide +kernel
theorem dX8_nest_50 : decode cX8_nest 50 = .ok (.ifnull 19, 3) := by decide +kernel
theorem dX8_nest_53 : decode cX8_nest 53 = .ok (.aload 8, 2) := by decide +kernel
theorem dX8_nest_55 : decode cX8_nest 55 = .ok (.getfield 104, 3) := by decide +kernel
theorem dX8_nest_58 : decode cX8_nest 58 = .ok (.bipush 6, 2) := by decide +kernel
theorem dX8_nest_60 : decode cX8_nest 60 = .ok (.if_icmp .ne 9, 3) := by decide +kernel
theorem dX8_nest_63 : decode cX8_nest 63 = .ok (.iload_n 1, 1) := by decide +kernel
theorem dX8_nest_64 : decode cX8_nest 64 = .ok (.iload 4, 2) := by decide +kernel
theorem dX8_nest_66 : decode cX8_nest 66 = .ok (.if_icmp .ne 5, 3) := by decide +kernel
theorem dX8_nest_69 : decode cX8_nest 69 = .ok (.iconst (-1), 1) := by decide +kernel
theorem dX8_nest_7 : decode cX8_nest 7 = .ok (.aload_n 0, 1) := by decide +kernel
theorem dX8_nest_70 : decode cX8_nest 70 = .ok (.ireturn, 1) := by decide +kernel
theorem dX8_nest_71 : decode cX8_nest 71 = .ok (.aload_n 0, 1) := by decide +kernel
theorem dX8_nest_72 : decode cX8_nest 72 = .ok (.getfield 24, 3) := by decide +kernel
theorem dX8_nest_75 : decode cX8_nest 75 = .ok (.aload 8, 2) := by decide +kernel
theorem dX8_nest_77 : decode cX8_nest 77 = .ok (.getfield 112, 3) := by decide +kernel
theorem dX8_nest_8 : decode cX8_nest 8 = .ok (.iload 4, 2) := by decide +kernel
theorem dX8_nest_80 : decode cX8_nest 80 = .ok (.invokestatic 136, 3) := by decide +kernel
theorem dX8_nest_83 : decode cX8_nest 83 = .ok (.astore 9, 2) := by decide +kernel
theorem dX8_nest_85 : decode cX8_nest 85 = .ok (.aload 9, 2) := by decide +kernel
theorem dX8_nest_87 : decode cX8_nest 87 = .ok (.ifnonnull 5, 3) := by decide +kernel
theorem dX8_nest_90 : decode cX8_nest 90 = .ok (.iconst (-1), 1) := by decide +kernel
theorem dX8_nest_91 : decode cX8_nest 91 = .ok (.ireturn, 1) := by decide +kernel
theorem dX8_nest_92 : decode cX8_nest 92 = .ok (.aload_n 0, 1) := by decide +kernel
theorem dX8_nest_93 : decode cX8_nest 93 = .ok (.getfield 42, 3) := by decide +kernel
theorem dX8_nest_96 : decode cX8_nest 96 = .ok (.aload 5, 2) := by decide +kernel
theorem dX8_nest_98 : decode cX8_nest 98 = .ok (.aload 7, 2) := by decide +kernel
theorem dX8_open_0 : decode cX8_open 0 = .ok (.aload_n 0, 1) := by decide +kernel
theorem dX8_open_1 : decode cX8_open 1 = .ok (.iload_n 1, 1) := by decide +kernel
theorem dX8_open_10 : decode cX8_open 10 = .ok (.invokevirtual 128, 3) := by decide +kernel
theorem dX8_open_101 : decode cX8_open 101 = .ok (.iconst 0, 1) := by decide +kernel
theorem dX8_open_102 : decode cX8_open 102 = .ok (.invokevirtual 83, 3) := by decide +kernel
theorem dX8_open_105 : decode cX8_open 105 = .ok (.pop, 1) := by decide +kernel
theorem dX8_open_106 : decode cX8_open 106 = .ok (.goto 20, 3) := by decide +kernel
theorem dX8_open_109 : decode cX8_open 109 = .ok (.aload 6, 2) := by decide +kernel
theorem dX8_open_111 : decode cX8_open 111 = .ok (.aload 5, 2) := by decide +kernel
theorem dX8_open_113 : decode cX8_open 113 = .ok (.aload 9, 2) := by decide +kernel
theorem dX8_open_115 : decode cX8_open 115 = .ok (.getfield 199, 3) := by decide +kernel
theorem dX8_open_118 : decode cX8_open 118 = .ok (.aload 9, 2) := by decide +kernel
theorem dX8_open_120 : decode cX8_open 120 = .ok (.getfield 202, 3) := by decide +kernel
theorem dX8_open_123 : decode cX8_open 123 = .ok (.invokevirtual 132, 3) := by decide +kernel
theorem dX8_open_126 : decode cX8_open 126 = .ok (.aload 6, 2) := by decide +kernel
theorem dX8_open_128 : decode cX8_open 128 = .ok (.invokevirtual 76, 3) := by decide +kernel
theorem dX8_open_13 : decode cX8_open 13 = .ok (.astore 6, 2) := by decide +kernel
theorem dX8_open_131 : decode cX8_open 131 = .ok (.ireturn, 1) := by decide +kernel
theorem dX8_open_15 : decode cX8_open 15 = .ok (.aload_n 0, 1) := by decide +kernel
theorem dX8_open_16 : decode cX8_open 16 = .ok (.getfield 24, 3) := by decide +kernel
theorem dX8_open_19 : decode cX8_open 19 = .ok (.iload_n 2, 1) := by decide +kernel
theorem dX8_open_2 : decode cX8_open 2 = .ok (.invokevirtual 128, 3) := by decide +kernel
theorem dX8_open_20 : decode cX8_open 20 = .ok (.invokestatic 136, 3) := by decide +kernel
theorem dX8_open_23 : decode cX8_open 23 = .ok (.astore 7, 2) := by decide +kernel
theorem dX8_open_25 : decode cX8_open 25 = .ok (.aload_n 0, 1) := by decide +kernel
theorem dX8_open_26 : decode cX8_open 26 = .ok (.iload_n 2, 1) := by decide +kernel
theorem dX8_open_27 : decode cX8_open 27 = .ok (.iload_n 3, 1) := by decide +kernel
theorem dX8_open_28 : decode cX8_open 28 = .ok (.invokevirtual 100, 3) := by decide +kernel
theorem dX8_open_31 : decode cX8_open 31 = .ok (.astore 8, 2) := by decide +kernel
theorem dX8_open_33 : decode cX8_open 33 = .ok (.aload 5, 2) := by decide +kernel
theorem dX8_open_35 : decode cX8_open 35 = .ok (.ifnull 28, 3) := by decide +kernel
theorem dX8_open_38 : decode cX8_open 38 = .ok (.aload 6, 2) := by decide +kernel
theorem dX8_open_40 : decode cX8_open 40 = .ok (.ifnull 23, 3) := by decide +kernel
theorem dX8_open_43 : decode cX8_open 43 = .ok (.aload 7, 2) := by decide +kernel
theorem dX8_open_45 : decode cX8_open 45 = .ok (.ifnull 18, 3) := by decide +kernel
theorem dX8_open_48 : decode cX8_open 48 = .ok (.aload 8, 2) := by decide +kernel
theorem dX8_open_5 : decode cX8_open 5 = .ok (.astore 5, 2) := by decide +kernel
theorem dX8_open_50 : decode cX8_open 50 = .ok (.ifnull 13, 3) := by decide +kernel
theorem dX8_open_53 : decode cX8_open 53 = .ok (.aload 8, 2) := by decide +kernel
theorem dX8_open_55 : decode cX8_open 55 = .ok (.getfield 104, 3) := by decide +kernel
theorem dX8_open_58 : decode cX8_open 58 = .ok (.bipush 6, 2) := by decide +kernel
theorem dX8_open_60 : decode cX8_open 60 = .ok (.if_icmp .eq 5, 3) := by decide +kernel
theorem dX8_open_63 : decode cX8_open 63 = .ok (.iconst (-1), 1) := by decide +kernel
theorem dX8_open_64 : decode cX8_open 64 = .ok (.ireturn, 1) := by decide +kernel
theorem dX8_open_65 : decode cX8_open 65 = .ok (.aload_n 0, 1) := by decide +kernel
theorem dX8_open_66 : decode cX8_open 66 = .ok (.getfield 42, 3) := by decide +kernel
theorem dX8_open_69 : decode cX8_open 69 = .ok (.aload 5, 2) := by decide +kernel
theorem dX8_open_7 : decode cX8_open 7 = .ok (.aload_n 0, 1) := by decide +kernel
theorem dX8_open_71 : decode cX8_open 71 = .ok (.aload 7, 2) := by decide +kernel
theorem dX8_open_73 : decode cX8_open 73 = .ok (.invokevirtual 144, 3) := by decide +kernel
theorem dX8_open_76 : decode cX8_open 76 = .ok (.ifCond .ne 6, 3) := by decide +kernel
theorem dX8_open_79 : decode cX8_open 79 = .ok (.bipush (-2), 2) := by decide +kernel
theorem dX8_open_8 : decode cX8_open 8 = .ok (.iload 4, 2) := by decide +kernel
theorem dX8_open_81 : decode cX8_open 81 = .ok (.ireturn, 1) := by decide +kernel
theorem dX8_open_82 : decode cX8_open 82 = .ok (.aload_n 0, 1) := by decide +kernel
theorem dX8_open_83 : decode cX8_open 83 = .ok (.getfield 42, 3) := by decide +kernel
theorem dX8_open_86 : decode cX8_open 86 = .ok (.aload 5, 2) := by decide +kernel
theorem dX8_open_88 : decode cX8_open 88 = .ok (.iload_n 3, 1) := by decide +kernel
theorem dX8_open_89 : decode cX8_open 89 = .ok (.invokevirtual 186, 3) := by decide +kernel
theorem dX8_open_92 : decode cX8_open 92 = .ok (.astore 9, 2) := by decide +kernel
theorem dX8_open_94 : decode cX8_open 94 = .ok (.aload 9, 2) := by decide +kernel
theorem dX8_open_96 : decode cX8_open 96 = .ok (.ifnonnull 13, 3) := by decide +kernel
theorem dX8_open_99 : decode cX8_open 99 = .ok (.aload 6, 2) := by decide +kernel
theorem dX8_plain_0 : decode cX8_plain 0 = .ok (.aload_n 0, 1) := by decide +kernel
theorem dX8_plain_1 : decode cX8_plain 1 = .ok (.iload_n 1, 1) := by decide +kernel
theorem dX8_plain_11 : decode cX8_plain 11 = .ok (.lconst 0, 1) := by decide +kernel
theorem dX8_plain_12 : decode cX8_plain 12 = .ok (.goto 7, 3) := by decide +kernel
theorem dX8_plain_15 : decode cX8_plain 15 = .ok (.aload_n 3, 1) := by decide +kernel
theorem dX8_plain_16 : decode cX8_plain 16 = .ok (.invokevirtual 124, 3) := by decide +kernel
theorem dX8_plain_19 : decode cX8_plain 19 = .ok (.lreturn, 1) := by decide +kernel
theorem dX8_plain_2 : decode cX8_plain 2 = .ok (.iload_n 2, 1) := by decide +kernel
theorem dX8_plain_3 : decode cX8_plain 3 = .ok (.invokevirtual 100, 3) := by decide +kernel
theorem dX8_plain_6 : decode cX8_plain 6 = .ok (.astore_n 3, 1) := by decide +kernel
theorem dX8_plain_7 : decode cX8_plain 7 = .ok (.aload_n 3, 1) := by decide +kernel
theorem dX8_plain_8 : decode cX8_plain 8 = .ok (.ifnonnull 7, 3) := by decide +kernel
theorem dX8_read_0 : decode cX8_read 0 = .ok (.aload_n 0, 1) := by decide +kernel
theorem dX8_read_1 : decode cX8_read 1 = .ok (.iload_n 1, 1) := by decide +kernel
theorem dX8_read_10 : decode cX8_read 10 = .ok (.iload_n 2, 1) := by decide +kernel
theorem dX8_read_11 : decode cX8_read 11 = .ok (.invokestatic 136, 3) := by decide +kernel
theorem dX8_read_14 : decode cX8_read 14 = .ok (.astore 4, 2) := by decide +kernel
theorem dX8_read_16 : decode cX8_read 16 = .ok (.aload_n 0, 1) := by decide +kernel
theorem dX8_read_17 : decode cX8_read 17 = .ok (.iconst 0, 1) := by decide +kernel
theorem dX8_read_18 : decode cX8_read 18 = .ok (.putfield 66, 3) := by decide +kernel
theorem dX8_read_2 : decode cX8_read 2 = .ok (.invokevirtual 128, 3) := by decide +kernel
theorem dX8_read_21 : decode cX8_read 21 = .ok (.aload_n 0, 1) := by decide +kernel
theorem dX8_read_22 : decode cX8_read 22 = .ok (.iconst (-1), 1) := by decide +kernel
theorem dX8_read_23 : decode cX8_read 23 = .ok (.putfield 70, 3) := by decide +kernel
theorem dX8_read_26 : decode cX8_read 26 = .ok (.aload_n 3, 1) := by decide +kernel
theorem dX8_read_27 : decode cX8_read 27 = .ok (.ifnull 8, 3) := by decide +kernel
theorem dX8_read_30 : decode cX8_read 30 = .ok (.aload 4, 2) := by decide +kernel
theorem dX8_read_32 : decode cX8_read 32 = .ok (.ifnonnull 6, 3) := by decide +kernel
theorem dX8_read_35 : decode cX8_read 35 = .ok (.bipush (-2), 2) := by decide +kernel
theorem dX8_read_37 : decode cX8_read 37 = .ok (.ireturn, 1) := by decide +kernel
theorem dX8_read_38 : decode cX8_read 38 = .ok (.aload_n 0, 1) := by decide +kernel
theorem dX8_read_39 : decode cX8_read 39 = .ok (.getfield 42, 3) := by decide +kernel
theorem dX8_read_42 : decode cX8_read 42 = .ok (.aload_n 3, 1) := by decide +kernel
theorem dX8_read_43 : decode cX8_read 43 = .ok (.aload 4, 2) := by decide +kernel
theorem dX8_read_45 : decode cX8_read 45 = .ok (.invokevirtual 144, 3) := by decide +kernel
theorem dX8_read_48 : decode cX8_read 48 = .ok (.ifCond .ne 27, 3) := by decide +kernel
theorem dX8_read_5 : decode cX8_read 5 = .ok (.astore_n 3, 1) := by decide +kernel
theorem dX8_read_51 : decode cX8_read 51 = .ok (.aload_n 0, 1) := by decide +kernel
theorem dX8_read_52 : decode cX8_read 52 = .ok (.aload_n 0, 1) := by decide +kernel
theorem dX8_read_53 : decode cX8_read 53 = .ok (.getfield 42, 3) := by decide +kernel
theorem dX8_read_56 : decode cX8_read 56 = .ok (.invokevirtual 178, 3) := by decide +kernel
theorem dX8_read_59 : decode cX8_read 59 = .ok (.putfield 66, 3) := by decide +kernel
theorem dX8_read_6 : decode cX8_read 6 = .ok (.aload_n 0, 1) := by decide +kernel
theorem dX8_read_62 : decode cX8_read 62 = .ok (.aload_n 0, 1) := by decide +kernel
theorem dX8_read_63 : decode cX8_read 63 = .ok (.aload_n 0, 1) := by decide +kernel
theorem dX8_read_64 : decode cX8_read 64 = .ok (.getfield 42, 3) := by decide +kernel
theorem dX8_read_67 : decode cX8_read 67 = .ok (.invokevirtual 179, 3) := by decide +kernel
theorem dX8_read_7 : decode cX8_read 7 = .ok (.getfield 24, 3) := by decide +kernel
theorem dX8_read_70 : decode cX8_read 70 = .ok (.putfield 70, 3) := by decide +kernel
theorem dX8_read_73 : decode cX8_read 73 = .ok (.iconst (-1), 1) := by decide +kernel
theorem dX8_read_74 : decode cX8_read 74 = .ok (.ireturn, 1) := by decide +kernel
theorem dX8_read_75 : decode cX8_read 75 = .ok (.aload_n 0, 1) := by decide +kernel
theorem dX8_read_76 : decode cX8_read 76 = .ok (.getfield 42, 3) := by decide +kernel
theorem dX8_read_79 : decode cX8_read 79 = .ok (.aload_n 3, 1) := by decide +kernel
theorem dX8_read_80 : decode cX8_read 80 = .ok (.aload 4, 2) := by decide +kernel
theorem dX8_read_82 : decode cX8_read 82 = .ok (.iconst 1, 1) := by decide +kernel
theorem dX8_read_83 : decode cX8_read 83 = .ok (.invokevirtual 180, 3) := by decide +kernel
theorem dX8_read_86 : decode cX8_read 86 = .ok (.ireturn, 1) := by decide +kernel
theorem dX8_readers_0 : decode cX8_readers 0 = .ok (.aload_n 0, 1) := by decide +kernel
theorem dX8_readers_1 : decode cX8_readers 1 = .ok (.getfield 24, 3) := by decide +kernel
theorem dX8_readers_11 : decode cX8_readers 11 = .ok (.iconst (-1), 1) := by decide +kernel
theorem dX8_readers_12 : decode cX8_readers 12 = .ok (.ireturn, 1) := by decide +kernel
theorem dX8_readers_13 : decode cX8_readers 13 = .ok (.iconst 0, 1) := by decide +kernel
theorem dX8_readers_14 : decode cX8_readers 14 = .ok (.istore_n 2, 1) := by decide +kernel
theorem dX8_readers_15 : decode cX8_readers 15 = .ok (.iconst 0, 1) := by decide +kernel
theorem dX8_readers_16 : decode cX8_readers 16 = .ok (.istore_n 3, 1) := by decide +kernel
theorem dX8_readers_17 : decode cX8_readers 17 = .ok (.iload_n 3, 1) := by decide +kernel
theorem dX8_readers_18 : decode cX8_readers 18 = .ok (.bipush 8, 2) := by decide +kernel
theorem dX8_readers_20 : decode cX8_readers 20 = .ok (.if_icmp .ge 36, 3) := by decide +kernel
theorem dX8_readers_23 : decode cX8_readers 23 = .ok (.aload_n 0, 1) := by decide +kernel
theorem dX8_readers_24 : decode cX8_readers 24 = .ok (.getfield 24, 3) := by decide +kernel
theorem dX8_readers_27 : decode cX8_readers 27 = .ok (.iload_n 3, 1) := by decide +kernel
theorem dX8_readers_28 : decode cX8_readers 28 = .ok (.aaload, 1) := by decide +kernel
theorem dX8_readers_29 : decode cX8_readers 29 = .ok (.ifnull 21, 3) := by decide +kernel
theorem dX8_readers_32 : decode cX8_readers 32 = .ok (.aload_n 0, 1) := by decide +kernel
theorem dX8_readers_33 : decode cX8_readers 33 = .ok (.getfield 56, 3) := by decide +kernel
theorem dX8_readers_36 : decode cX8_readers 36 = .ok (.iload_n 3, 1) := by decide +kernel
theorem dX8_readers_37 : decode cX8_readers 37 = .ok (.iload_n 1, 1) := by decide +kernel
theorem dX8_readers_38 : decode cX8_readers 38 = .ok (.iload_n 1, 1) := by decide +kernel
theorem dX8_readers_39 : decode cX8_readers 39 = .ok (.iconst 1, 1) := by decide +kernel
theorem dX8_readers_4 : decode cX8_readers 4 = .ok (.iload_n 1, 1) := by decide +kernel
theorem dX8_readers_40 : decode cX8_readers 40 = .ok (.iconst 0, 1) := by decide +kernel
theorem dX8_readers_41 : decode cX8_readers 41 = .ok (.invokevirtual 209, 3) := by decide +kernel
theorem dX8_readers_44 : decode cX8_readers 44 = .ok (.ifCond .ne 6, 3) := by decide +kernel
theorem dX8_readers_47 : decode cX8_readers 47 = .ok (.iinc 2 1, 3) := by decide +kernel
theorem dX8_readers_5 : decode cX8_readers 5 = .ok (.invokestatic 136, 3) := by decide +kernel
theorem dX8_readers_50 : decode cX8_readers 50 = .ok (.iinc 3 1, 3) := by decide +kernel
theorem dX8_readers_53 : decode cX8_readers 53 = .ok (.goto (-36), 3) := by decide +kernel
theorem dX8_readers_56 : decode cX8_readers 56 = .ok (.iload_n 2, 1) := by decide +kernel
theorem dX8_readers_57 : decode cX8_readers 57 = .ok (.ireturn, 1) := by decide +kernel
theorem dX8_readers_8 : decode cX8_readers 8 = .ok (.ifnonnull 5, 3) := by decide +kernel
theorem dX8_recordOf_0 : decode cX8_recordOf 0 = .ok (.iload_n 1, 1) := by decide +kernel
theorem dX8_recordOf_1 : decode cX8_recordOf 1 = .ok (.ifCond .lt 17, 3) := by decide +kernel
theorem dX8_recordOf_10 : decode cX8_recordOf 10 = .ok (.getfield 18, 3) := by decide +kernel
theorem dX8_recordOf_13 : decode cX8_recordOf 13 = .ok (.iload_n 1, 1) := by decide +kernel
theorem dX8_recordOf_14 : decode cX8_recordOf 14 = .ok (.aaload, 1) := by decide +kernel
theorem dX8_recordOf_15 : decode cX8_recordOf 15 = .ok (.goto 4, 3) := by decide +kernel
theorem dX8_recordOf_18 : decode cX8_recordOf 18 = .ok (.aconst_null, 1) := by decide +kernel
theorem dX8_recordOf_19 : decode cX8_recordOf 19 = .ok (.areturn, 1) := by decide +kernel
theorem dX8_recordOf_4 : decode cX8_recordOf 4 = .ok (.iload_n 1, 1) := by decide +kernel
theorem dX8_recordOf_5 : decode cX8_recordOf 5 = .ok (.iconst 4, 1) := by decide +kernel
theorem dX8_recordOf_6 : decode cX8_recordOf 6 = .ok (.if_icmp .ge 12, 3) := by decide +kernel
theorem dX8_recordOf_9 : decode cX8_recordOf 9 = .ok (.aload_n 0, 1) := by decide +kernel
theorem dX8_say_0 : decode cX8_say 0 = .ok (.aload_n 0, 1) := by decide +kernel
theorem dX8_say_1 : decode cX8_say 1 = .ok (.iload_n 1, 1) := by decide +kernel
theorem dX8_say_101 : decode cX8_say 101 = .ok (.aload_n 0, 1) := by decide +kernel
theorem dX8_say_102 : decode cX8_say 102 = .ok (.getfield 60, 3) := by decide +kernel
theorem dX8_say_105 : decode cX8_say 105 = .ok (.iconst 0, 1) := by decide +kernel
theorem dX8_say_106 : decode cX8_say 106 = .ok (.invokevirtual 83, 3) := by decide +kernel
theorem dX8_say_109 : decode cX8_say 109 = .ok (.pop, 1) := by decide +kernel
theorem dX8_say_11 : decode cX8_say 11 = .ok (.iload_n 2, 1) := by decide +kernel
theorem dX8_say_110 : decode cX8_say 110 = .ok (.aload_n 0, 1) := by decide +kernel
theorem dX8_say_111 : decode cX8_say 111 = .ok (.getfield 60, 3) := by decide +kernel
theorem dX8_say_114 : decode cX8_say 114 = .ok (.aload 6, 2) := by decide +kernel
theorem dX8_say_116 : decode cX8_say 116 = .ok (.invokevirtual 152, 3) := by decide +kernel
theorem dX8_say_119 : decode cX8_say 119 = .ok (.aload_n 0, 1) := by decide +kernel
theorem dX8_say_12 : decode cX8_say 12 = .ok (.invokestatic 136, 3) := by decide +kernel
theorem dX8_say_120 : decode cX8_say 120 = .ok (.getfield 60, 3) := by decide +kernel
theorem dX8_say_123 : decode cX8_say 123 = .ok (.aload_n 0, 1) := by decide +kernel
theorem dX8_say_124 : decode cX8_say 124 = .ok (.getfield 14, 3) := by decide +kernel
theorem dX8_say_127 : decode cX8_say 127 = .ok (.invokevirtual 76, 3) := by decide +kernel
theorem dX8_say_130 : decode cX8_say 130 = .ok (.i2l, 1) := by decide +kernel
theorem dX8_say_131 : decode cX8_say 131 = .ok (.invokevirtual 168, 3) := by decide +kernel
theorem dX8_say_134 : decode cX8_say 134 = .ok (.aload_n 0, 1) := by decide +kernel
theorem dX8_say_135 : decode cX8_say 135 = .ok (.getfield 60, 3) := by decide +kernel
theorem dX8_say_138 : decode cX8_say 138 = .ok (.aload_n 0, 1) := by decide +kernel
theorem dX8_say_139 : decode cX8_say 139 = .ok (.getfield 14, 3) := by decide +kernel
theorem dX8_say_142 : decode cX8_say 142 = .ok (.iconst 0, 1) := by decide +kernel
theorem dX8_say_143 : decode cX8_say 143 = .ok (.aload_n 0, 1) := by decide +kernel
theorem dX8_say_144 : decode cX8_say 144 = .ok (.getfield 14, 3) := by decide +kernel
theorem dX8_say_147 : decode cX8_say 147 = .ok (.invokevirtual 76, 3) := by decide +kernel
theorem dX8_say_15 : decode cX8_say 15 = .ok (.astore 5, 2) := by decide +kernel
theorem dX8_say_150 : decode cX8_say 150 = .ok (.invokevirtual 171, 3) := by decide +kernel
theorem dX8_say_153 : decode cX8_say 153 = .ok (.aload_n 0, 1) := by decide +kernel
theorem dX8_say_154 : decode cX8_say 154 = .ok (.aload 4, 2) := by decide +kernel
theorem dX8_say_156 : decode cX8_say 156 = .ok (.aload 5, 2) := by decide +kernel
theorem dX8_say_158 : decode cX8_say 158 = .ok (.iload_n 3, 1) := by decide +kernel
theorem dX8_say_159 : decode cX8_say 159 = .ok (.aload 6, 2) := by decide +kernel
theorem dX8_say_161 : decode cX8_say 161 = .ok (.getfield 109, 3) := by decide +kernel
theorem dX8_say_164 : decode cX8_say 164 = .ok (.invokevirtual 160, 3) := by decide +kernel
theorem dX8_say_167 : decode cX8_say 167 = .ok (.istore 7, 2) := by decide +kernel
theorem dX8_say_169 : decode cX8_say 169 = .ok (.aload_n 0, 1) := by decide +kernel
theorem dX8_say_17 : decode cX8_say 17 = .ok (.aload_n 0, 1) := by decide +kernel
theorem dX8_say_170 : decode cX8_say 170 = .ok (.getfield 14, 3) := by decide +kernel
theorem dX8_say_173 : decode cX8_say 173 = .ok (.iconst 0, 1) := by decide +kernel
theorem dX8_say_174 : decode cX8_say 174 = .ok (.invokevirtual 83, 3) := by decide +kernel
theorem dX8_say_177 : decode cX8_say 177 = .ok (.pop, 1) := by decide +kernel
theorem dX8_say_178 : decode cX8_say 178 = .ok (.iload 7, 2) := by decide +kernel
theorem dX8_say_18 : decode cX8_say 18 = .ok (.iload_n 2, 1) := by decide +kernel
theorem dX8_say_180 : decode cX8_say 180 = .ok (.ireturn, 1) := by decide +kernel
theorem dX8_say_19 : decode cX8_say 19 = .ok (.iload_n 3, 1) := by decide +kernel
theorem dX8_say_2 : decode cX8_say 2 = .ok (.invokevirtual 128, 3) := by decide +kernel
theorem dX8_say_20 : decode cX8_say 20 = .ok (.invokevirtual 100, 3) := by decide +kernel
theorem dX8_say_23 : decode cX8_say 23 = .ok (.astore 6, 2) := by decide +kernel
theorem dX8_say_25 : decode cX8_say 25 = .ok (.aload 4, 2) := by decide +kernel
theorem dX8_say_27 : decode cX8_say 27 = .ok (.ifnull 22, 3) := by decide +kernel
theorem dX8_say_30 : decode cX8_say 30 = .ok (.aload 5, 2) := by decide +kernel
theorem dX8_say_32 : decode cX8_say 32 = .ok (.ifnull 17, 3) := by decide +kernel
theorem dX8_say_35 : decode cX8_say 35 = .ok (.aload 6, 2) := by decide +kernel
theorem dX8_say_37 : decode cX8_say 37 = .ok (.ifnull 12, 3) := by decide +kernel
theorem dX8_say_40 : decode cX8_say 40 = .ok (.aload 6, 2) := by decide +kernel
theorem dX8_say_42 : decode cX8_say 42 = .ok (.getfield 104, 3) := by decide +kernel
theorem dX8_say_45 : decode cX8_say 45 = .ok (.iconst 5, 1) := by decide +kernel
theorem dX8_say_46 : decode cX8_say 46 = .ok (.if_icmp .eq 9, 3) := by decide +kernel
theorem dX8_say_49 : decode cX8_say 49 = .ok (.iconst (-1), 1) := by decide +kernel
theorem dX8_say_5 : decode cX8_say 5 = .ok (.astore 4, 2) := by decide +kernel
theorem dX8_say_50 : decode cX8_say 50 = .ok (.istore 7, 2) := by decide +kernel
theorem dX8_say_52 : decode cX8_say 52 = .ok (.goto 117, 3) := by decide +kernel
theorem dX8_say_55 : decode cX8_say 55 = .ok (.aload_n 0, 1) := by decide +kernel
theorem dX8_say_56 : decode cX8_say 56 = .ok (.getfield 42, 3) := by decide +kernel
theorem dX8_say_59 : decode cX8_say 59 = .ok (.aload 4, 2) := by decide +kernel
theorem dX8_say_61 : decode cX8_say 61 = .ok (.aload 5, 2) := by decide +kernel
theorem dX8_say_63 : decode cX8_say 63 = .ok (.invokevirtual 144, 3) := by decide +kernel
theorem dX8_say_66 : decode cX8_say 66 = .ok (.ifCond .ne 10, 3) := by decide +kernel
theorem dX8_say_69 : decode cX8_say 69 = .ok (.bipush (-2), 2) := by decide +kernel
theorem dX8_say_7 : decode cX8_say 7 = .ok (.aload_n 0, 1) := by decide +kernel
theorem dX8_say_71 : decode cX8_say 71 = .ok (.istore 7, 2) := by decide +kernel
theorem dX8_say_73 : decode cX8_say 73 = .ok (.goto 96, 3) := by decide +kernel
theorem dX8_say_76 : decode cX8_say 76 = .ok (.aload_n 0, 1) := by decide +kernel
theorem dX8_say_77 : decode cX8_say 77 = .ok (.getfield 14, 3) := by decide +kernel
theorem dX8_say_8 : decode cX8_say 8 = .ok (.getfield 24, 3) := by decide +kernel
theorem dX8_say_80 : decode cX8_say 80 = .ok (.iconst 0, 1) := by decide +kernel
theorem dX8_say_81 : decode cX8_say 81 = .ok (.aload_n 0, 1) := by decide +kernel
theorem dX8_say_82 : decode cX8_say 82 = .ok (.getfield 14, 3) := by decide +kernel
theorem dX8_say_85 : decode cX8_say 85 = .ok (.invokevirtual 76, 3) := by decide +kernel
theorem dX8_say_88 : decode cX8_say 88 = .ok (.invokevirtual 164, 3) := by decide +kernel
theorem dX8_say_91 : decode cX8_say 91 = .ok (.ifCond .ne 10, 3) := by decide +kernel
theorem dX8_say_94 : decode cX8_say 94 = .ok (.bipush (-3), 2) := by decide +kernel
theorem dX8_say_96 : decode cX8_say 96 = .ok (.istore 7, 2) := by decide +kernel
theorem dX8_say_98 : decode cX8_say 98 = .ok (.goto 71, 3) := by decide +kernel
theorem dX8_set_0 : decode cX8_set 0 = .ok (.aload_n 0, 1) := by decide +kernel
theorem dX8_set_1 : decode cX8_set 1 = .ok (.iload_n 1, 1) := by decide +kernel
theorem dX8_set_102 : decode cX8_set 102 = .ok (.lload 4, 2) := by decide +kernel
theorem dX8_set_104 : decode cX8_set 104 = .ok (.invokevirtual 156, 3) := by decide +kernel
theorem dX8_set_107 : decode cX8_set 107 = .ok (.aload_n 0, 1) := by decide +kernel
theorem dX8_set_108 : decode cX8_set 108 = .ok (.aload 6, 2) := by decide +kernel
theorem dX8_set_11 : decode cX8_set 11 = .ok (.iload_n 2, 1) := by decide +kernel
theorem dX8_set_110 : decode cX8_set 110 = .ok (.aload 7, 2) := by decide +kernel
theorem dX8_set_112 : decode cX8_set 112 = .ok (.iload_n 3, 1) := by decide +kernel
theorem dX8_set_113 : decode cX8_set 113 = .ok (.aload 8, 2) := by decide +kernel
theorem dX8_set_115 : decode cX8_set 115 = .ok (.getfield 109, 3) := by decide +kernel
theorem dX8_set_118 : decode cX8_set 118 = .ok (.invokevirtual 160, 3) := by decide +kernel
theorem dX8_set_12 : decode cX8_set 12 = .ok (.invokestatic 136, 3) := by decide +kernel
theorem dX8_set_121 : decode cX8_set 121 = .ok (.ireturn, 1) := by decide +kernel
theorem dX8_set_15 : decode cX8_set 15 = .ok (.astore 7, 2) := by decide +kernel
theorem dX8_set_17 : decode cX8_set 17 = .ok (.aload_n 0, 1) := by decide +kernel
theorem dX8_set_18 : decode cX8_set 18 = .ok (.iload_n 2, 1) := by decide +kernel
theorem dX8_set_19 : decode cX8_set 19 = .ok (.iload_n 3, 1) := by decide +kernel
theorem dX8_set_2 : decode cX8_set 2 = .ok (.invokevirtual 128, 3) := by decide +kernel
theorem dX8_set_20 : decode cX8_set 20 = .ok (.invokevirtual 100, 3) := by decide +kernel
theorem dX8_set_23 : decode cX8_set 23 = .ok (.astore 8, 2) := by decide +kernel
theorem dX8_set_25 : decode cX8_set 25 = .ok (.aload 6, 2) := by decide +kernel
theorem dX8_set_27 : decode cX8_set 27 = .ok (.ifnull 21, 3) := by decide +kernel
theorem dX8_set_30 : decode cX8_set 30 = .ok (.aload 7, 2) := by decide +kernel
theorem dX8_set_32 : decode cX8_set 32 = .ok (.ifnull 16, 3) := by decide +kernel
theorem dX8_set_35 : decode cX8_set 35 = .ok (.aload 8, 2) := by decide +kernel
theorem dX8_set_37 : decode cX8_set 37 = .ok (.ifnull 11, 3) := by decide +kernel
theorem dX8_set_40 : decode cX8_set 40 = .ok (.aload 8, 2) := by decide +kernel
theorem dX8_set_42 : decode cX8_set 42 = .ok (.invokevirtual 140, 3) := by decide +kernel
theorem dX8_set_45 : decode cX8_set 45 = .ok (.ifCond .ne 5, 3) := by decide +kernel
theorem dX8_set_48 : decode cX8_set 48 = .ok (.iconst (-1), 1) := by decide +kernel
theorem dX8_set_49 : decode cX8_set 49 = .ok (.ireturn, 1) := by decide +kernel
theorem dX8_set_5 : decode cX8_set 5 = .ok (.astore 6, 2) := by decide +kernel
theorem dX8_set_50 : decode cX8_set 50 = .ok (.aload_n 0, 1) := by decide +kernel
theorem dX8_set_51 : decode cX8_set 51 = .ok (.getfield 42, 3) := by decide +kernel
theorem dX8_set_54 : decode cX8_set 54 = .ok (.aload 6, 2) := by decide +kernel
theorem dX8_set_56 : decode cX8_set 56 = .ok (.aload 7, 2) := by decide +kernel
theorem dX8_set_58 : decode cX8_set 58 = .ok (.invokevirtual 144, 3) := by decide +kernel
theorem dX8_set_61 : decode cX8_set 61 = .ok (.ifCond .ne 6, 3) := by decide +kernel
theorem dX8_set_64 : decode cX8_set 64 = .ok (.bipush (-2), 2) := by decide +kernel
theorem dX8_set_66 : decode cX8_set 66 = .ok (.ireturn, 1) := by decide +kernel
theorem dX8_set_67 : decode cX8_set 67 = .ok (.aload 8, 2) := by decide +kernel
theorem dX8_set_69 : decode cX8_set 69 = .ok (.lload 4, 2) := by decide +kernel
theorem dX8_set_7 : decode cX8_set 7 = .ok (.aload_n 0, 1) := by decide +kernel
theorem dX8_set_71 : decode cX8_set 71 = .ok (.invokevirtual 148, 3) := by decide +kernel
theorem dX8_set_74 : decode cX8_set 74 = .ok (.ifCond .ne 6, 3) := by decide +kernel
theorem dX8_set_77 : decode cX8_set 77 = .ok (.bipush (-3), 2) := by decide +kernel
theorem dX8_set_79 : decode cX8_set 79 = .ok (.ireturn, 1) := by decide +kernel
theorem dX8_set_8 : decode cX8_set 8 = .ok (.getfield 24, 3) := by decide +kernel
theorem dX8_set_80 : decode cX8_set 80 = .ok (.aload_n 0, 1) := by decide +kernel
theorem dX8_set_81 : decode cX8_set 81 = .ok (.getfield 60, 3) := by decide +kernel
theorem dX8_set_84 : decode cX8_set 84 = .ok (.iconst 0, 1) := by decide +kernel
theorem dX8_set_85 : decode cX8_set 85 = .ok (.invokevirtual 83, 3) := by decide +kernel
theorem dX8_set_88 : decode cX8_set 88 = .ok (.pop, 1) := by decide +kernel
theorem dX8_set_89 : decode cX8_set 89 = .ok (.aload_n 0, 1) := by decide +kernel
theorem dX8_set_90 : decode cX8_set 90 = .ok (.getfield 60, 3) := by decide +kernel
theorem dX8_set_93 : decode cX8_set 93 = .ok (.aload 8, 2) := by decide +kernel
theorem dX8_set_95 : decode cX8_set 95 = .ok (.invokevirtual 152, 3) := by decide +kernel
theorem dX8_set_98 : decode cX8_set 98 = .ok (.aload_n 0, 1) := by decide +kernel
theorem dX8_set_99 : decode cX8_set 99 = .ok (.getfield 60, 3) := by decide +kernel
theorem dX8_settle_0 : decode cX8_settle 0 = .ok (.aload_n 0, 1) := by decide +kernel
theorem dX8_settle_1 : decode cX8_settle 1 = .ok (.getfield 49, 3) := by decide +kernel
theorem dX8_settle_10 : decode cX8_settle 10 = .ok (.getfield 60, 3) := by decide +kernel
theorem dX8_settle_13 : decode cX8_settle 13 = .ok (.aload_n 0, 1) := by decide +kernel
theorem dX8_settle_14 : decode cX8_settle 14 = .ok (.getfield 63, 3) := by decide +kernel
theorem dX8_settle_17 : decode cX8_settle 17 = .ok (.invokevirtual 221, 3) := by decide +kernel
theorem dX8_settle_20 : decode cX8_settle 20 = .ok (.aload_n 0, 1) := by decide +kernel
theorem dX8_settle_21 : decode cX8_settle 21 = .ok (.getfield 63, 3) := by decide +kernel
theorem dX8_settle_24 : decode cX8_settle 24 = .ok (.invokevirtual 76, 3) := by decide +kernel
theorem dX8_settle_27 : decode cX8_settle 27 = .ok (.bipush 120, 2) := by decide +kernel
theorem dX8_settle_29 : decode cX8_settle 29 = .ok (.if_icmp .le 6, 3) := by decide +kernel
theorem dX8_settle_32 : decode cX8_settle 32 = .ok (.bipush (-4), 2) := by decide +kernel
theorem dX8_settle_34 : decode cX8_settle 34 = .ok (.ireturn, 1) := by decide +kernel
theorem dX8_settle_35 : decode cX8_settle 35 = .ok (.aload_n 1, 1) := by decide +kernel
theorem dX8_settle_36 : decode cX8_settle 36 = .ok (.aload_n 0, 1) := by decide +kernel
theorem dX8_settle_37 : decode cX8_settle 37 = .ok (.getfield 63, 3) := by decide +kernel
theorem dX8_settle_4 : decode cX8_settle 4 = .ok (.aload_n 1, 1) := by decide +kernel
theorem dX8_settle_40 : decode cX8_settle 40 = .ok (.iconst 0, 1) := by decide +kernel
theorem dX8_settle_41 : decode cX8_settle 41 = .ok (.aload_n 0, 1) := by decide +kernel
theorem dX8_settle_42 : decode cX8_settle 42 = .ok (.getfield 63, 3) := by decide +kernel
theorem dX8_settle_45 : decode cX8_settle 45 = .ok (.invokevirtual 76, 3) := by decide +kernel
theorem dX8_settle_48 : decode cX8_settle 48 = .ok (.invokevirtual 132, 3) := by decide +kernel
theorem dX8_settle_5 : decode cX8_settle 5 = .ok (.aload_n 2, 1) := by decide +kernel
theorem dX8_settle_51 : decode cX8_settle 51 = .ok (.aload_n 1, 1) := by decide +kernel
theorem dX8_settle_52 : decode cX8_settle 52 = .ok (.invokevirtual 76, 3) := by decide +kernel
theorem dX8_settle_55 : decode cX8_settle 55 = .ok (.ireturn, 1) := by decide +kernel
theorem dX8_settle_6 : decode cX8_settle 6 = .ok (.iload_n 3, 1) := by decide +kernel
theorem dX8_settle_7 : decode cX8_settle 7 = .ok (.iload 4, 2) := by decide +kernel
theorem dX8_settle_9 : decode cX8_settle 9 = .ok (.aload_n 0, 1) := by decide +kernel
theorem dX8_step_0 : decode cX8_step 0 = .ok (.aload_n 0, 1) := by decide +kernel
theorem dX8_step_1 : decode cX8_step 1 = .ok (.iload_n 1, 1) := by decide +kernel
theorem dX8_step_2 : decode cX8_step 2 = .ok (.iload_n 2, 1) := by decide +kernel
theorem dX8_step_3 : decode cX8_step 3 = .ok (.iload_n 2, 1) := by decide +kernel
theorem dX8_step_4 : decode cX8_step 4 = .ok (.invokevirtual 205, 3) := by decide +kernel
theorem dX8_step_7 : decode cX8_step 7 = .ok (.ireturn, 1) := by decide +kernel
theorem dX8_walk_0 : decode cX8_walk 0 = .ok (.aload_n 0, 1) := by decide +kernel
theorem dX8_walk_1 : decode cX8_walk 1 = .ok (.iload_n 1, 1) := by decide +kernel
theorem dX8_walk_2 : decode cX8_walk 2 = .ok (.iload_n 2, 1) := by decide +kernel
theorem dX8_walk_3 : decode cX8_walk 3 = .ok (.iload_n 3, 1) := by decide +kernel
theorem dX8_walk_4 : decode cX8_walk 4 = .ok (.invokevirtual 205, 3) := by decide +kernel
theorem dX8_walk_7 : decode cX8_walk 7 = .ok (.ireturn, 1) := by decide +kernel
theorem dX8_write_0 : decode cX8_write 0 = .ok (.aload_n 0, 1) := by decide +kernel
theorem dX8_write_1 : decode cX8_write 1 = .ok (.iload_n 1, 1) := by decide +kernel
theorem dX8_write_12 : decode cX8_write 12 = .ok (.astore 5, 2) := by decide +kernel
theorem dX8_write_14 : decode cX8_write 14 = .ok (.aload_n 0, 1) := by decide +kernel
theorem dX8_write_15 : decode cX8_write 15 = .ok (.getfield 24, 3) := by decide +kernel
theorem dX8_write_18 : decode cX8_write 18 = .ok (.iload_n 2, 1) := by decide +kernel
theorem dX8_write_19 : decode cX8_write 19 = .ok (.invokestatic 136, 3) := by decide +kernel
theorem dX8_write_2 : decode cX8_write 2 = .ok (.invokevirtual 128, 3) := by decide +kernel
theorem dX8_write_22 : decode cX8_write 22 = .ok (.astore 6, 2) := by decide +kernel
theorem dX8_write_24 : decode cX8_write 24 = .ok (.aload 4, 2) := by decide +kernel
theorem dX8_write_26 : decode cX8_write 26 = .ok (.ifnull 13, 3) := by decide +kernel
theorem dX8_write_29 : decode cX8_write 29 = .ok (.aload 5, 2) := by decide +kernel
theorem dX8_write_31 : decode cX8_write 31 = .ok (.ifnull 8, 3) := by decide +kernel
theorem dX8_write_34 : decode cX8_write 34 = .ok (.aload 6, 2) := by decide +kernel
theorem dX8_write_36 : decode cX8_write 36 = .ok (.ifnonnull 5, 3) := by decide +kernel
theorem dX8_write_39 : decode cX8_write 39 = .ok (.iconst (-1), 1) := by decide +kernel
theorem dX8_write_40 : decode cX8_write 40 = .ok (.ireturn, 1) := by decide +kernel
theorem dX8_write_41 : decode cX8_write 41 = .ok (.aload_n 0, 1) := by decide +kernel
theorem dX8_write_42 : decode cX8_write 42 = .ok (.getfield 42, 3) := by decide +kernel
theorem dX8_write_45 : decode cX8_write 45 = .ok (.aload 4, 2) := by decide +kernel
theorem dX8_write_47 : decode cX8_write 47 = .ok (.aload 6, 2) := by decide +kernel
theorem dX8_write_49 : decode cX8_write 49 = .ok (.invokevirtual 144, 3) := by decide +kernel
theorem dX8_write_5 : decode cX8_write 5 = .ok (.astore 4, 2) := by decide +kernel
theorem dX8_write_52 : decode cX8_write 52 = .ok (.ifCond .ne 6, 3) := by decide +kernel
theorem dX8_write_55 : decode cX8_write 55 = .ok (.bipush (-2), 2) := by decide +kernel
theorem dX8_write_57 : decode cX8_write 57 = .ok (.ireturn, 1) := by decide +kernel
theorem dX8_write_58 : decode cX8_write 58 = .ok (.aload_n 0, 1) := by decide +kernel
theorem dX8_write_59 : decode cX8_write 59 = .ok (.getfield 49, 3) := by decide +kernel
theorem dX8_write_62 : decode cX8_write 62 = .ok (.aload 4, 2) := by decide +kernel
theorem dX8_write_64 : decode cX8_write 64 = .ok (.aload 6, 2) := by decide +kernel
theorem dX8_write_66 : decode cX8_write 66 = .ok (.aload_n 0, 1) := by decide +kernel
theorem dX8_write_67 : decode cX8_write 67 = .ok (.getfield 63, 3) := by decide +kernel
theorem dX8_write_7 : decode cX8_write 7 = .ok (.aload_n 0, 1) := by decide +kernel
theorem dX8_write_70 : decode cX8_write 70 = .ok (.invokevirtual 174, 3) := by decide +kernel
theorem dX8_write_73 : decode cX8_write 73 = .ok (.aload 5, 2) := by decide +kernel
theorem dX8_write_75 : decode cX8_write 75 = .ok (.aload_n 0, 1) := by decide +kernel
theorem dX8_write_76 : decode cX8_write 76 = .ok (.getfield 63, 3) := by decide +kernel
theorem dX8_write_79 : decode cX8_write 79 = .ok (.iconst 0, 1) := by decide +kernel
theorem dX8_write_8 : decode cX8_write 8 = .ok (.iload_n 3, 1) := by decide +kernel
theorem dX8_write_80 : decode cX8_write 80 = .ok (.aload_n 0, 1) := by decide +kernel
theorem dX8_write_81 : decode cX8_write 81 = .ok (.getfield 63, 3) := by decide +kernel
theorem dX8_write_84 : decode cX8_write 84 = .ok (.invokevirtual 76, 3) := by decide +kernel
theorem dX8_write_87 : decode cX8_write 87 = .ok (.invokevirtual 132, 3) := by decide +kernel
theorem dX8_write_9 : decode cX8_write 9 = .ok (.invokevirtual 128, 3) := by decide +kernel
theorem dX8_write_90 : decode cX8_write 90 = .ok (.aload 5, 2) := by decide +kernel
theorem dX8_write_92 : decode cX8_write 92 = .ok (.invokevirtual 76, 3) := by decide +kernel
theorem dX8_write_95 : decode cX8_write 95 = .ok (.ireturn, 1) := by decide +kernel
noncomputable def fX8_recordOf (h0 : Nat) (p0 : Int32) (st : CS) : Option (Option Nat × CS) := pif (p0 < 0) (some (none, st)) (pif (4 ≤ p0) (some (none, st)) (gd (qk st h0 = 11) (ono (qP st h0 1) (fun a_4 => gd (qk st a_4 = 23) (gd (vp_in p0 (ql st a_4)) (some (qP st a_4 p0.toNatClampNeg, st)))))))
set_option maxHeartbeats 1000000 in
theorem mo_X8_recordOf (h0 : Nat) (p0 : Int32) (st : CS) (r : Option Nat) (st' : CS) (hf : fX8_recordOf h0 p0 st = some (r, st')) : Ke st st' := by
  unfold fX8_recordOf at hf
  have hm : Ke st st := Ke.rf
  rcases pif_or hf with ⟨c_1, hf⟩ | ⟨c_1, hf⟩
  · obtain ⟨e1, e2⟩ := pr_some hf
    exact e2 ▸ hm
  · rcases pif_or hf with ⟨c_2, hf⟩ | ⟨c_2, hf⟩
    · obtain ⟨e1, e2⟩ := pr_some hf
      exact e2 ▸ hm
    · obtain ⟨hk_3, hf⟩ := gd_some hf
      obtain ⟨a_4, ha_5, hf⟩ := ono_some hf
      obtain ⟨hk_6, hf⟩ := gd_some hf
      obtain ⟨g_7, hf⟩ := gd_some hf
      obtain ⟨e1, e2⟩ := pr_some hf
      exact e2 ▸ hm
def wq_X8_recordOf : List Cond := .code yX8_recordOf cX8_recordOf 2 (some (.object "RecordBench$Row")) :: (([.fieldLink RX8 18 "RecordBench" "records" "[LRecordBench$Row;"] : List Cond) ++ wsX80)
set_option maxHeartbeats 4000000 in
set_option maxRecDepth 100000 in
theorem c_X8_recordOf (l : Launch) (dC : Nat → ClassId) (dI : Nat → Nat → Nat) (ka ad : Nat → Nat) (ct : Nat → ClassId) (h0 : Nat) (p0 : Int32) (st st' : CS) (r : Option Nat) (hf : fX8_recordOf h0 p0 st = some (r, st')) (sz : Nat) : Met l yX8_recordOf wq_X8_recordOf ({ frames := 0, cells := 0, slots := 0, locals := 0 }) (va_Pc [.ref (ad h0), .int p0] (PrC (dC, dI) ct ka ad st sz)) (va_Qq (fun r' (_ : Unit) => r' = Option.map ad r) (fun _ => CB (dC, dI) ct ka ad st' (aC ad st sz)) (aC ad st sz)) 0 0 (aC ad st sz) := by
  refine Met.ofW (cc := cX8_recordOf) (maxL := 2) (ret := (some (.object "RecordBench$Row"))) (by decide) rfl ?_
  intro p e s m args below meth c s₁ B hml hv
  obtain ⟨rfl, hsz, hw0, hK, hN, hZ, hC, hR, hL, hw1, hw2⟩ := hv
  have hx := B.exec
  have hb := B.bytes
  have hr := B.returns
  have hts := atoms_spec (ws := wq_X8_recordOf) B.pre
  have hown : s.vm.findClass RX8 = some m.cls := findClass_of_methodNamed B.named
  have iRX8 : ∀ w ∈ u_ws RX8 TX8 12, w ∈ wq_X8_recordOf := fun w h => List.mem_cons_of_mem _ (List.mem_append_right _ h)
  subst hsz
  have hp : Cp (dC, dI) ka ad ct (aC ad st s.heap.size) s.heap st s.heap [] := ⟨fun i a b => ⟨hw0 i a b, Or.inl ⟨i, a, b, rfl⟩⟩, va_S.rf, hw1, hw2⟩
  generalize hAe : aC ad st s.heap.size = A at hp hZ hC ⊢
  have hA : ∀ q : Nat, s.heap.size ≤ q → A q := fun q h => by rw [← hAe]; exact Or.inr h
  have hl := lv_entry ([.ref (ad h0), .int p0]) (n := 2) (Nat.le_of_ble_eq_true rfl)
  rw [lg_entry_eq]
  generalize (lg_sl ([.ref (ad h0), .int p0]) ++ List.replicate (2 - (lg_sl ([.ref (ad h0), .int p0])).length) Slot.unset).toArray = ls at hl ⊢
  have hl : lv_has ls 2 [(0, .ref (ad h0)), (1, .int p0)] := hl
  unfold fX8_recordOf at hf
  refine lv_iload_n hx hb dX8_recordOf_0 rfl (lv_at hl 1 rfl) ?_
  refine lv_if_lt (tgt := 18) hx hb dX8_recordOf_1 (by decide) (fun c_1 => ?_) (fun c_1 => ?_)
  · have hf := pif_t c_1 hf
    refine lv_null hx hb dX8_recordOf_18 ?_
    obtain ⟨e1, e2⟩ := pr_some hf
    exact W.aret (v := va_rf (Option.map ad none)) hx hb hr (Or.inl ⟨_, rfl⟩) (rf_or _) (fun t ht hW => ⟨⟨Option.map ad none, (), rfl, by rw [e1], Cp.end e2 hp ht⟩, hp.2.1.F ht⟩) hp.2.1.2.2 dX8_recordOf_19
  · have hf := pif_f c_1 hf
    refine lv_iload_n hx hb dX8_recordOf_4 rfl (lv_at hl 1 rfl) ?_
    refine lv_iconst (v := 4) hx hb dX8_recordOf_5 (by decide) ?_
    refine lv_icmp_ge (tgt := 18) hx hb dX8_recordOf_6 (by decide) (fun c_2 => ?_) (fun c_2 => ?_)
    · have hf := pif_t c_2 hf
      refine lv_null hx hb dX8_recordOf_18 ?_
      obtain ⟨e1, e2⟩ := pr_some hf
      exact W.aret (v := va_rf (Option.map ad none)) hx hb hr (Or.inl ⟨_, rfl⟩) (rf_or _) (fun t ht hW => ⟨⟨Option.map ad none, (), rfl, by rw [e1], Cp.end e2 hp ht⟩, hp.2.1.F ht⟩) hp.2.1.2.2 dX8_recordOf_19
    · have hf := pif_f c_2 hf
      refine lv_aload_n hx hb dX8_recordOf_9 rfl (lv_at hl 0 rfl) ?_
      obtain ⟨hk_3, hf⟩ := gd_some hf
      refine q_gp (ci := 10) (C := RX8) (T := TX8) (N := 12) (k := 1) hx hb hts iRX8 hown hK hp hk_3 (by decide) rfl rfl (by decide) rfl (Or.inl (hts (.fieldLink RX8 18 "RecordBench" "records" "[LRecordBench$Row;") (by decide +kernel))) (fun _ h9 => h9) dX8_recordOf_10 ?_
      refine lv_iload_n hx hb dX8_recordOf_13 rfl (lv_at hl 1 rfl) ?_
      obtain ⟨a_4, ha_5, hf⟩ := ono_some hf
      refine o_at1 ha_5 ?_
      obtain ⟨hk_6, hf⟩ := gd_some hf
      obtain ⟨g_7, hf⟩ := gd_some hf
      refine q_aq (t0 := 2) hx hb hK hp hk_6 (by decide) rfl g_7 dX8_recordOf_14 ?_
      refine lv_goto (tgt := 19) hx hb dX8_recordOf_15 (by decide) ?_
      obtain ⟨e1, e2⟩ := pr_some hf
      exact W.aret (v := va_rf (Option.map ad (qP st a_4 p0.toNatClampNeg))) hx hb hr (Or.inl ⟨_, rfl⟩) (rf_or _) (fun t ht hW => ⟨⟨Option.map ad (qP st a_4 p0.toNatClampNeg), (), rfl, by rw [e1], Cp.end e2 hp ht⟩, hp.2.1.F ht⟩) hp.2.1.2.2 dX8_recordOf_19
noncomputable def fX8_fieldOf (h0 : Nat) (p0 : Int32) (p1 : Int32) (st : CS) : Option (Option Nat × CS) := gd (qk st h0 = 11) (bnd (fX8_makeOf (qP st h0 2) p0 st) (fun r_4 st_2 => pif (r_4 = none) (some (none, st_2)) (ono r_4 (fun a_6 => gd (qk st_2 a_6 = 4) (bnd (fX1_fieldAt a_6 p1 st_2) (fun r_11 st_9 => some (r_11, st_9)))))))
set_option maxHeartbeats 1000000 in
theorem mo_X8_fieldOf (h0 : Nat) (p0 : Int32) (p1 : Int32) (st : CS) (r : Option Nat) (st' : CS) (hf : fX8_fieldOf h0 p0 p1 st = some (r, st')) : Ke st st' := by
  unfold fX8_fieldOf at hf
  have hm : Ke st st := Ke.rf
  obtain ⟨hk_1, hf⟩ := gd_some hf
  obtain ⟨r_4, st_2, hc_3, hf⟩ := bnd_some hf
  have hm := hm.tr (mo_X8_makeOf (qP st h0 2) p0 _ _ _ hc_3)
  rcases pif_or hf with ⟨c_5, hf⟩ | ⟨c_5, hf⟩
  · obtain ⟨e1, e2⟩ := pr_some hf
    exact e2 ▸ hm
  · obtain ⟨a_6, ha_7, hf⟩ := ono_some hf
    obtain ⟨hk_8, hf⟩ := gd_some hf
    obtain ⟨r_11, st_9, hc_10, hf⟩ := bnd_some hf
    have hm := hm.tr (mo_X1_fieldAt a_6 p1 _ _ _ hc_10)
    obtain ⟨e1, e2⟩ := pr_some hf
    exact e2 ▸ hm
def wq_X8_fieldOf : List Cond := .code yX8_fieldOf cX8_fieldOf 4 (some (.object "RecordBench$Field")) :: (([.fieldLink RX8 24 "RecordBench" "makes" "[LRecordBench$Make;", .methodLink RX8 136 yX8_makeOf, .static yX8_makeOf, .initialized RX8, .methodLink RX8 225 yX1_fieldAt, .instanceMethod yX1_fieldAt, .selects RX1 yX1_fieldAt yX1_fieldAt, .initialized RX1, .code yX8_makeOf cX8_makeOf 2 (some (.object "RecordBench$Make")), .code yX1_fieldAt cX1_fieldAt 2 (some (.object "RecordBench$Field")), .fieldLink RX1 11 "RecordBench$Make" "fields" "[LRecordBench$Field;"] : List Cond) ++ wsX80 ++ wsX10)
set_option maxRecDepth 20000 in
theorem gq_X8_fieldOf_X8_makeOf_136 : GoodIn wq_X8_fieldOf (va_wsS RX8 136 yX8_makeOf wq_X8_makeOf) := goodIn_app (goodIn_r _ [2, 3, 4] rfl rfl) (goodIn_r _ [9] rfl rfl)
theorem gs_wq_X8_fieldOf_wsX10 : GoodIn wq_X8_fieldOf wsX10 := fun w h => ⟨List.mem_cons_of_mem _ (List.mem_append_right _ h), (gt_wsX10 w h).2⟩
set_option maxRecDepth 20000 in
theorem gq_X8_fieldOf_X1_fieldAt_225 : GoodIn wq_X8_fieldOf (wsV RX8 225 RX1 yX1_fieldAt wq_X1_fieldAt) := goodIn_app (goodIn_r _ [5, 6, 7, 8] rfl rfl) (goodIn_ca (goodIn_r _ [10, 11] rfl rfl) gs_wq_X8_fieldOf_wsX10)
set_option maxHeartbeats 4000000 in
set_option maxRecDepth 100000 in
theorem c_X8_fieldOf (l : Launch) (dC : Nat → ClassId) (dI : Nat → Nat → Nat) (ka ad : Nat → Nat) (ct : Nat → ClassId) (h0 : Nat) (p0 : Int32) (p1 : Int32) (st st' : CS) (r : Option Nat) (hf : fX8_fieldOf h0 p0 p1 st = some (r, st')) (sz : Nat) : Met l yX8_fieldOf wq_X8_fieldOf ({ frames := 1, cells := 0, slots := 0, locals := 25 }) (va_Pc [.ref (ad h0), .int p0, .int p1] (PrC (dC, dI) ct ka ad st sz)) (va_Qq (fun r' (_ : Unit) => r' = Option.map ad r) (fun _ => CB (dC, dI) ct ka ad st' (aC ad st sz)) (aC ad st sz)) 0 0 (aC ad st sz) := by
  refine Met.ofW (cc := cX8_fieldOf) (maxL := 4) (ret := (some (.object "RecordBench$Field"))) (by decide) rfl ?_
  intro p e s m args below meth c s₁ B hml hv
  obtain ⟨rfl, hsz, hw0, hK, hN, hZ, hC, hR, hL, hw1, hw2⟩ := hv
  have hx := B.exec
  have hb := B.bytes
  have hr := B.returns
  have hts := atoms_spec (ws := wq_X8_fieldOf) B.pre
  have hown : s.vm.findClass RX8 = some m.cls := findClass_of_methodNamed B.named
  have iRX8 : ∀ w ∈ u_ws RX8 TX8 12, w ∈ wq_X8_fieldOf := fun w h => List.mem_cons_of_mem _ (List.mem_append_left _ (List.mem_append_right _ h))
  subst hsz
  have hp : Cp (dC, dI) ka ad ct (aC ad st s.heap.size) s.heap st s.heap [] := ⟨fun i a b => ⟨hw0 i a b, Or.inl ⟨i, a, b, rfl⟩⟩, va_S.rf, hw1, hw2⟩
  generalize hAe : aC ad st s.heap.size = A at hp hZ hC ⊢
  have hA : ∀ q : Nat, s.heap.size ≤ q → A q := fun q h => by rw [← hAe]; exact Or.inr h
  have hl := lv_entry ([.ref (ad h0), .int p0, .int p1]) (n := 4) (Nat.le_of_ble_eq_true rfl)
  rw [lg_entry_eq]
  generalize (lg_sl ([.ref (ad h0), .int p0, .int p1]) ++ List.replicate (4 - (lg_sl ([.ref (ad h0), .int p0, .int p1])).length) Slot.unset).toArray = ls at hl ⊢
  have hl : lv_has ls 4 [(0, .ref (ad h0)), (1, .int p0), (2, .int p1)] := hl
  unfold fX8_fieldOf at hf
  refine lv_aload_n hx hb dX8_fieldOf_0 rfl (lv_at hl 0 rfl) ?_
  obtain ⟨hk_1, hf⟩ := gd_some hf
  refine q_gp (ci := 10) (C := RX8) (T := TX8) (N := 12) (k := 2) hx hb hts iRX8 hown hK hp hk_1 (by decide) rfl rfl (by decide) rfl (Or.inl (hts (.fieldLink RX8 24 "RecordBench" "makes" "[LRecordBench$Make;") (by decide +kernel))) (fun _ h9 => h9) dX8_fieldOf_1 ?_
  refine lv_iload_n hx hb dX8_fieldOf_4 rfl (lv_at hl 1 rfl) ?_
  obtain ⟨r_4, st_2, hc_3, hf⟩ := bnd_some hf
  refine q_cq hp hA (va_runS (As := [va_rf (Option.map ad (qP st h0 2)), .int p0]) (rest := []) ⟨hx, hb, hml, hown, hts⟩ (c_X8_makeOf l dC dI ka ad ct (qP st h0 2) p0 _ _ _ hc_3 _) (va_cwS 2 hts gq_X8_fieldOf_X8_makeOf_136 rfl rfl rfl (by decide +kernel) ⟨Nat.le_of_ble_eq_true rfl, Nat.le_of_ble_eq_true rfl⟩) ⟨PrC.blind _, q_pre hp hK hN hZ hC hR hL hA⟩ rfl rfl hl.1 rfl (lv_room (Nat.le_of_ble_eq_true rfl)) dX8_fieldOf_5 ⟨Nat.le_of_ble_eq_true rfl, Nat.le_of_ble_eq_true rfl⟩) (fun H locs hp => ?_)
  have hk_1 : qk st_2 h0 = 11 := by rw [(mo_X8_makeOf (qP st h0 2) p0 _ _ _ hc_3).2.2.1]; exact hk_1
  refine o_astore_n (i := 3) (lv' := [(3, va_rf (Option.map ad r_4)), (0, .ref (ad h0)), (1, .int p0), (2, .int p1)]) hx hb dX8_fieldOf_8 rfl hl (by decide) rfl (fun ls hl => ?_)
  refine o_aload_n hx hb dX8_fieldOf_9 rfl (lv_at hl 0 rfl) ?_
  refine o_ifnonnull (tgt := 17) hx hb dX8_fieldOf_10 (by decide) (fun c_5 => ?_) (fun c_5 => ?_)
  · have hf := pif_f c_5 hf
    refine o_aload_n hx hb dX8_fieldOf_17 rfl (lv_at hl 0 rfl) ?_
    refine lv_iload_n hx hb dX8_fieldOf_18 rfl (lv_at hl 3 rfl) ?_
    obtain ⟨a_6, ha_7, hf⟩ := ono_some hf
    refine o_at1 ha_7 ?_
    obtain ⟨hk_8, hf⟩ := gd_some hf
    obtain ⟨r_11, st_9, hc_10, hf⟩ := bnd_some hf
    refine q_cq hp hA (va_runV (As := [.int p1]) (rest := []) ⟨hx, hb, hml, hown, hts⟩ (c_X1_fieldAt l dC dI ka ad ct a_6 p1 _ _ _ hc_10 _) (cwV 1 hts gq_X8_fieldOf_X1_fieldAt_225 rfl rfl rfl (by decide +kernel) ⟨Nat.le_of_ble_eq_true rfl, Nat.le_of_ble_eq_true rfl⟩) ⟨PrC.blind _, q_rv3 hK hp hC hk_8, q_pre hp hK hN hZ hC hR hL hA⟩ rfl rfl hl.1 rfl (lv_room (Nat.le_of_ble_eq_true rfl)) dX8_fieldOf_19 ⟨Nat.le_of_ble_eq_true rfl, Nat.le_of_ble_eq_true rfl⟩) (fun H locs hp => ?_)
    have hk_1 : qk st_9 h0 = 11 := by rw [(mo_X1_fieldAt a_6 p1 _ _ _ hc_10).2.2.1]; exact hk_1
    have hk_8 : qk st_9 a_6 = 4 := by rw [(mo_X1_fieldAt a_6 p1 _ _ _ hc_10).2.2.1]; exact hk_8
    obtain ⟨e1, e2⟩ := pr_some hf
    exact W.aret (v := va_rf (Option.map ad r_11)) hx hb hr (Or.inl ⟨_, rfl⟩) (rf_or _) (fun t ht hW => ⟨⟨Option.map ad r_11, (), rfl, by rw [e1], Cp.end e2 hp ht⟩, hp.2.1.F ht⟩) hp.2.1.2.2 dX8_fieldOf_22
  · have hf := pif_t c_5 hf
    refine lv_null hx hb dX8_fieldOf_13 ?_
    refine lv_goto (tgt := 22) hx hb dX8_fieldOf_14 (by decide) ?_
    obtain ⟨e1, e2⟩ := pr_some hf
    exact W.aret (v := va_rf (Option.map ad none)) hx hb hr (Or.inl ⟨_, rfl⟩) (rf_or _) (fun t ht hW => ⟨⟨Option.map ad none, (), rfl, by rw [e1], Cp.end e2 hp ht⟩, hp.2.1.F ht⟩) hp.2.1.2.2 dX8_fieldOf_22
noncomputable def fX8_settle (h0 : Nat) (p0 : Option Nat) (p1 : Option Nat) (p2 : Int32) (p3 : Int32) (st : CS) : Option (Int32 × CS) := gd (qk st h0 = 11) (ono (qP st h0 5) (fun a_2 => gd (qk st a_2 = 7) (bnv (fX4_rewriteWith a_2 p0 p1 p2 p3 (qP st h0 7) (qP st h0 8) st) (fun st_5 => ono (qP st_5 h0 8) (fun a_8 => gd (qk st_5 a_8 = 8) (bnd (fX5_size a_8 st_5) (fun r_13 st_11 => pif (r_13 ≤ 120) (ono (qP st_11 h0 8) (fun a_15 => gd (qk st_11 a_15 = 8) (bnd (fX5_size a_15 st_11) (fun r_20 st_18 => ono p0 (fun a_21 => gd (qk st_18 a_21 = 8) (bnv (fX5_become a_21 (qP st_11 h0 8) 0 r_20 st_18) (fun st_24 => bnd (fX5_size a_21 st_24) (fun r_29 st_27 => some (r_29, st_27))))))))) (some (((-4) : Int32), st_11)))))))))
set_option maxHeartbeats 1000000 in
theorem mo_X8_settle (h0 : Nat) (p0 : Option Nat) (p1 : Option Nat) (p2 : Int32) (p3 : Int32) (st : CS) (r : Int32) (st' : CS) (hf : fX8_settle h0 p0 p1 p2 p3 st = some (r, st')) : Ke st st' := by
  unfold fX8_settle at hf
  have hm : Ke st st := Ke.rf
  obtain ⟨hk_1, hf⟩ := gd_some hf
  obtain ⟨a_2, ha_3, hf⟩ := ono_some hf
  obtain ⟨hk_4, hf⟩ := gd_some hf
  obtain ⟨st_5, hc_6, hf⟩ := bnv_some hf
  have hm := hm.tr (mo_X4_rewriteWith a_2 p0 p1 p2 p3 (qP st h0 7) (qP st h0 8) _ _ hc_6)
  obtain ⟨a_8, ha_9, hf⟩ := ono_some hf
  obtain ⟨hk_10, hf⟩ := gd_some hf
  obtain ⟨r_13, st_11, hc_12, hf⟩ := bnd_some hf
  have hm := hm.tr (mo_X5_size a_8 _ _ _ hc_12)
  rcases pif_or hf with ⟨c_14, hf⟩ | ⟨c_14, hf⟩
  · obtain ⟨a_15, ha_16, hf⟩ := ono_some hf
    obtain ⟨hk_17, hf⟩ := gd_some hf
    obtain ⟨r_20, st_18, hc_19, hf⟩ := bnd_some hf
    have hm := hm.tr (mo_X5_size a_15 _ _ _ hc_19)
    obtain ⟨a_21, ha_22, hf⟩ := ono_some hf
    obtain ⟨hk_23, hf⟩ := gd_some hf
    obtain ⟨st_24, hc_25, hf⟩ := bnv_some hf
    have hm := hm.tr (mo_X5_become a_21 (qP st_11 h0 8) 0 r_20 _ _ hc_25)
    obtain ⟨r_29, st_27, hc_28, hf⟩ := bnd_some hf
    have hm := hm.tr (mo_X5_size a_21 _ _ _ hc_28)
    obtain ⟨e1, e2⟩ := pr_some hf
    exact e2 ▸ hm
  · obtain ⟨e1, e2⟩ := pr_some hf
    exact e2 ▸ hm
def wq_X8_settle : List Cond := .code yX8_settle cX8_settle 5 (some .int) :: (([.fieldLink RX8 49 "RecordBench" "writer" "LRecordBench$RecordWriter;", .fieldLink RX8 60 "RecordBench" "fresh" "LRecordBench$Row;", .fieldLink RX8 63 "RecordBench" "work" "LRecordBench$Row;", .methodLink RX8 221 yX4_rewriteWith, .instanceMethod yX4_rewriteWith, .selects RX4 yX4_rewriteWith yX4_rewriteWith, .initialized RX4, .methodLink RX8 76 yX5_size, .instanceMethod yX5_size, .selects RX5 yX5_size yX5_size, .initialized RX5, .methodLink RX8 132 yX5_become, .instanceMethod yX5_become, .selects RX5 yX5_become yX5_become, .code yX4_rewriteWith cX4_rewriteWith 13 none, .fieldLink RX4 17 "RecordBench$RecordWriter" "pieces" "[LRecordBench$Piece;", .methodLink RX4 39 yX5_size, .methodLink RX4 51 yX5_append, .instanceMethod yX5_append, .selects RX5 yX5_append yX5_append, .methodLink RX4 66 yX4_copyPiece, .instanceMethod yX4_copyPiece, .selects RX4 yX4_copyPiece yX4_copyPiece, .methodLink RX4 54 yX1_knownAt, .instanceMethod yX1_knownAt, .selects RX1 yX1_knownAt yX1_knownAt, .initialized RX1, .methodLink RX4 43 yX2_look, .instanceMethod yX2_look, .selects RX2 yX2_look yX2_look, .initialized RX2, .methodLink RX4 35 yX5_cut, .instanceMethod yX5_cut, .selects RX5 yX5_cut yX5_cut, .code yX5_size cX5_size 1 (some .int), .fieldLink RX5 21 "RecordBench$Row" "size" "I", .code yX5_append cX5_append 5 none, .methodLink RX5 48 yX5_byteAt, .instanceMethod yX5_byteAt, .selects RX5 yX5_byteAt yX5_byteAt, .methodLink RX5 25 yX5_push, .instanceMethod yX5_push, .selects RX5 yX5_push yX5_push, .code yX5_byteAt cX5_byteAt 2 (some .int), .fieldLink RX5 15 "RecordBench$Row" "bytes" "[I", .code yX5_push cX5_push 2 none, .code yX4_copyPiece cX4_copyPiece 8 none, .fieldLink RX4 9 "RecordBench$RecordWriter" "makes" "[LRecordBench$Make;", .methodLink RX4 73 yX5_pushKey, .instanceMethod yX5_pushKey, .selects RX5 yX5_pushKey yX5_pushKey, .methodLink RX4 77 yX0_isNumber, .instanceMethod yX0_isNumber, .selects RX0 yX0_isNumber yX0_isNumber, .initialized RX0, .methodLink RX4 102 yX5_push, .static yX8_makeOf, .initialized RX8, .methodLink RX4 112 yX4_copyAll, .instanceMethod yX4_copyAll, .selects RX4 yX4_copyAll yX4_copyAll, .methodLink RX4 116 yX5_replace, .instanceMethod yX5_replace, .selects RX5 yX5_replace yX5_replace, .methodLink RX4 96 yX5_pushVarint, .instanceMethod yX5_pushVarint, .selects RX5 yX5_pushVarint yX5_pushVarint, .methodLink RX4 81 yX2_asNumber, .instanceMethod yX2_asNumber, .selects RX2 yX2_asNumber yX2_asNumber, .methodLink RX4 85 yX5_pushNumber, .instanceMethod yX5_pushNumber, .selects RX5 yX5_pushNumber yX5_pushNumber, .code yX5_pushKey cX5_pushKey 2 none, .constantLong RX5 37 (2), .methodLink RX5 33 yX5_pushVarint, .methodLink RX5 44 yX0_hasLength, .instanceMethod yX0_hasLength, .selects RX0 yX0_hasLength yX0_hasLength, .code yX5_pushVarint cX5_pushVarint 6 none, .constantLong RX5 29 (-128), .constantLong RX5 31 (127), .code yX0_hasLength cX0_hasLength 1 (some .boolean), .fieldLink RX0 15 "RecordBench$Field" "kind" "I", .code yX0_isNumber cX0_isNumber 1 (some .boolean), .code yX8_makeOf cX8_makeOf 2 (some (.object "RecordBench$Make")), .code yX4_copyAll cX4_copyAll 10 none, .code yX2_look cX2_look 6 none, .fieldLink RX2 9 "RecordBench$Piece" "number" "I", .fieldLink RX2 15 "RecordBench$Piece" "withLength" "Z", .fieldLink RX2 19 "RecordBench$Piece" "raw" "J", .fieldLink RX2 23 "RecordBench$Piece" "body" "I", .fieldLink RX2 26 "RecordBench$Piece" "end" "I", .fieldLink RX2 29 "RecordBench$Piece" "fault" "I", .fieldLink RX2 32 "RecordBench$Piece" "pos" "I", .fieldLink RX2 35 "RecordBench$Piece" "broken" "Z", .methodLink RX2 42 yX2_place, .instanceMethod yX2_place, .selects RX2 yX2_place yX2_place, .methodLink RX2 38 yX2_takeVarint, .instanceMethod yX2_takeVarint, .selects RX2 yX2_takeVarint yX2_takeVarint, .code yX2_place cX2_place 6 none, .constantLong RX2 46 (30), .code yX2_takeVarint cX2_takeVarint 7 (some .long), .constantLong RX2 54 (127), .methodLink RX2 48 yX5_byteAt, .code yX1_knownAt cX1_knownAt 3 (some (.object "RecordBench$Field")), .methodLink RX1 21 yX1_fieldAt, .instanceMethod yX1_fieldAt, .selects RX1 yX1_fieldAt yX1_fieldAt, .code yX1_fieldAt cX1_fieldAt 2 (some (.object "RecordBench$Field")), .fieldLink RX1 11 "RecordBench$Make" "fields" "[LRecordBench$Field;", .code yX5_replace cX5_replace 3 none, .code yX2_asNumber cX2_asNumber 1 (some .long), .code yX5_pushNumber cX5_pushNumber 3 none, .code yX5_cut cX5_cut 2 (some .boolean), .code yX5_become cX5_become 6 none] : List Cond) ++ wsX80 ++ wsX40 ++ wsX20 ++ wsX00 ++ wsX50 ++ wsX10)
theorem gs_wq_X8_settle_wsX40 : GoodIn wq_X8_settle wsX40 := fun w h => ⟨List.mem_cons_of_mem _ (List.mem_append_left _ (List.mem_append_left _ (List.mem_append_left _ (List.mem_append_left _ (List.mem_append_right _ h))))), (gt_wsX40 w h).2⟩
theorem gs_wq_X8_settle_wsX20 : GoodIn wq_X8_settle wsX20 := fun w h => ⟨List.mem_cons_of_mem _ (List.mem_append_left _ (List.mem_append_left _ (List.mem_append_left _ (List.mem_append_right _ h)))), (gt_wsX20 w h).2⟩
theorem gs_wq_X8_settle_wsX00 : GoodIn wq_X8_settle wsX00 := fun w h => ⟨List.mem_cons_of_mem _ (List.mem_append_left _ (List.mem_append_left _ (List.mem_append_right _ h))), (gt_wsX00 w h).2⟩
theorem gs_wq_X8_settle_wsX50 : GoodIn wq_X8_settle wsX50 := fun w h => ⟨List.mem_cons_of_mem _ (List.mem_append_left _ (List.mem_append_right _ h)), (gt_wsX50 w h).2⟩
theorem gs_wq_X8_settle_wsX10 : GoodIn wq_X8_settle wsX10 := fun w h => ⟨List.mem_cons_of_mem _ (List.mem_append_right _ h), (gt_wsX10 w h).2⟩
set_option maxRecDepth 20000 in
theorem gq_X8_settle_X4_rewriteWith_221 : GoodIn wq_X8_settle (wsV RX8 221 RX4 yX4_rewriteWith wq_X4_rewriteWith) := goodIn_app (goodIn_r _ [4, 5, 6, 7] rfl rfl) (goodIn_ca (goodIn_ca (goodIn_ca (goodIn_ca (goodIn_ca (goodIn_r _ [15, 16, 17, 9, 10, 11, 18, 19, 20, 21, 22, 23, 7, 24, 25, 26, 27, 28, 29, 30, 31, 32, 33, 34, 35, 36, 37, 38, 39, 40, 41, 42, 43, 44, 45, 46, 47, 48, 49, 50, 51, 52, 53, 54, 55, 56, 57, 58, 59, 60, 61, 62, 63, 64, 65, 66, 67, 68, 69, 70, 71, 72, 73, 74, 75, 76, 77, 78, 79, 80, 81, 82, 83, 84, 85, 86, 87, 88, 89, 90, 91, 92, 93, 94, 95, 96, 97, 98, 99, 100, 101, 102, 103, 104, 105, 106, 107, 108, 109, 110, 111, 112, 113, 114, 115, 116, 117] rfl rfl) gs_wq_X8_settle_wsX40) gs_wq_X8_settle_wsX20) gs_wq_X8_settle_wsX00) gs_wq_X8_settle_wsX50) gs_wq_X8_settle_wsX10)
set_option maxRecDepth 20000 in
theorem gq_X8_settle_X5_size_76 : GoodIn wq_X8_settle (wsV RX8 76 RX5 yX5_size wq_X5_size) := goodIn_app (goodIn_r _ [8, 9, 10, 11] rfl rfl) (goodIn_ca (goodIn_r _ [35, 36] rfl rfl) gs_wq_X8_settle_wsX50)
set_option maxRecDepth 20000 in
theorem gq_X8_settle_X5_become_132 : GoodIn wq_X8_settle (wsV RX8 132 RX5 yX5_become wq_X5_become) := goodIn_app (goodIn_r _ [12, 13, 14, 11] rfl rfl) (goodIn_ca (goodIn_r _ [118, 45, 36, 38, 39, 40, 11, 44] rfl rfl) gs_wq_X8_settle_wsX50)
set_option maxHeartbeats 4000000 in
set_option maxRecDepth 100000 in
theorem c_X8_settle (l : Launch) (dC : Nat → ClassId) (dI : Nat → Nat → Nat) (ka ad : Nat → Nat) (ct : Nat → ClassId) (h0 : Nat) (p0 : Option Nat) (p1 : Option Nat) (p2 : Int32) (p3 : Int32) (st st' : CS) (r : Int32) (hf : fX8_settle h0 p0 p1 p2 p3 st = some (r, st')) (sz : Nat) : Met l yX8_settle wq_X8_settle ({ frames := 53, cells := 0, slots := 0, locals := 1479 }) (va_Pc [.ref (ad h0), va_rf (Option.map ad p0), va_rf (Option.map ad p1), .int p2, .int p3] (PrC (dC, dI) ct ka ad st sz)) (va_Qi (fun r' (_ : Unit) => r' = r) (fun _ => CB (dC, dI) ct ka ad st' (aC ad st sz)) (aC ad st sz)) 0 0 (aC ad st sz) := by
  refine Met.ofW (cc := cX8_settle) (maxL := 5) (ret := (some .int)) (by decide) rfl ?_
  intro p e s m args below meth c s₁ B hml hv
  obtain ⟨rfl, hsz, hw0, hK, hN, hZ, hC, hR, hL, hw1, hw2⟩ := hv
  have hx := B.exec
  have hb := B.bytes
  have hr := B.returns
  have hts := atoms_spec (ws := wq_X8_settle) B.pre
  have hown : s.vm.findClass RX8 = some m.cls := findClass_of_methodNamed B.named
  have iRX8 : ∀ w ∈ u_ws RX8 TX8 12, w ∈ wq_X8_settle := fun w h => List.mem_cons_of_mem _ (List.mem_append_left _ (List.mem_append_left _ (List.mem_append_left _ (List.mem_append_left _ (List.mem_append_left _ (List.mem_append_right _ h))))))
  subst hsz
  have hp : Cp (dC, dI) ka ad ct (aC ad st s.heap.size) s.heap st s.heap [] := ⟨fun i a b => ⟨hw0 i a b, Or.inl ⟨i, a, b, rfl⟩⟩, va_S.rf, hw1, hw2⟩
  generalize hAe : aC ad st s.heap.size = A at hp hZ hC ⊢
  have hA : ∀ q : Nat, s.heap.size ≤ q → A q := fun q h => by rw [← hAe]; exact Or.inr h
  have hl := lv_entry ([.ref (ad h0), va_rf (Option.map ad p0), va_rf (Option.map ad p1), .int p2, .int p3]) (n := 5) (by simp [lg_sl, rf_cat, vc_i, vc_l, vc_r, vc_n])
  rw [lg_entry_eq]
  generalize (lg_sl ([.ref (ad h0), va_rf (Option.map ad p0), va_rf (Option.map ad p1), .int p2, .int p3]) ++ List.replicate (5 - (lg_sl ([.ref (ad h0), va_rf (Option.map ad p0), va_rf (Option.map ad p1), .int p2, .int p3])).length) Slot.unset).toArray = ls at hl ⊢
  have hl : lv_has ls 5 [(0, .ref (ad h0)), (1, va_rf (Option.map ad p0)), (2, va_rf (Option.map ad p1)), (3, .int p2), (4, .int p3)] := by simpa [lv_args, rf_cat, vc_i, vc_l, vc_r, vc_n] using hl
  unfold fX8_settle at hf
  refine lv_aload_n hx hb dX8_settle_0 rfl (lv_at hl 0 rfl) ?_
  obtain ⟨hk_1, hf⟩ := gd_some hf
  refine q_gp (ci := 10) (C := RX8) (T := TX8) (N := 12) (k := 5) hx hb hts iRX8 hown hK hp hk_1 (by decide) rfl rfl (by decide) rfl (Or.inl (hts (.fieldLink RX8 49 "RecordBench" "writer" "LRecordBench$RecordWriter;") (by decide +kernel))) (fun _ h9 => h9) dX8_settle_1 ?_
  refine o_aload_n hx hb dX8_settle_4 rfl (lv_at hl 1 rfl) ?_
  refine o_aload_n hx hb dX8_settle_5 rfl (lv_at hl 2 rfl) ?_
  refine lv_iload_n hx hb dX8_settle_6 rfl (lv_at hl 3 rfl) ?_
  refine lv_iload hx hb dX8_settle_7 (lv_at hl 4 rfl) ?_
  refine lv_aload_n hx hb dX8_settle_9 rfl (lv_at hl 0 rfl) ?_
  refine q_gp (ci := 10) (C := RX8) (T := TX8) (N := 12) (k := 7) hx hb hts iRX8 hown hK hp hk_1 (by decide) rfl rfl (by decide) rfl (Or.inl (hts (.fieldLink RX8 60 "RecordBench" "fresh" "LRecordBench$Row;") (by decide +kernel))) (fun _ h9 => h9) dX8_settle_10 ?_
  refine lv_aload_n hx hb dX8_settle_13 rfl (lv_at hl 0 rfl) ?_
  refine q_gp (ci := 10) (C := RX8) (T := TX8) (N := 12) (k := 8) hx hb hts iRX8 hown hK hp hk_1 (by decide) rfl rfl (by decide) rfl (Or.inl (hts (.fieldLink RX8 63 "RecordBench" "work" "LRecordBench$Row;") (by decide +kernel))) (fun _ h9 => h9) dX8_settle_14 ?_
  obtain ⟨a_2, ha_3, hf⟩ := ono_some hf
  refine o_at6 ha_3 ?_
  obtain ⟨hk_4, hf⟩ := gd_some hf
  obtain ⟨st_5, hc_6, hf⟩ := bnv_some hf
  refine q_cv hp hA (va_runV (As := [va_rf (Option.map ad p0), va_rf (Option.map ad p1), .int p2, .int p3, va_rf (Option.map ad (qP st h0 7)), va_rf (Option.map ad (qP st h0 8))]) (rest := []) ⟨hx, hb, hml, hown, hts⟩ (c_X4_rewriteWith l dC dI ka ad ct a_2 p0 p1 p2 p3 (qP st h0 7) (qP st h0 8) _ _ hc_6 _) (cwV 6 hts gq_X8_settle_X4_rewriteWith_221 rfl rfl rfl (by decide +kernel) ⟨Nat.le_of_ble_eq_true rfl, Nat.le_of_ble_eq_true rfl⟩) ⟨PrC.blind _, q_rv6 hK hp hC hk_4, q_pre hp hK hN hZ hC hR hL hA⟩ rfl rfl hl.1 rfl (lv_room (Nat.le_of_ble_eq_true rfl)) dX8_settle_17 ⟨Nat.le_of_ble_eq_true rfl, Nat.le_of_ble_eq_true rfl⟩) (fun H locs hp => ?_)
  have hk_1 : qk st_5 h0 = 11 := by rw [(mo_X4_rewriteWith a_2 p0 p1 p2 p3 (qP st h0 7) (qP st h0 8) _ _ hc_6).2.2.1]; exact hk_1
  have hk_4 : qk st_5 a_2 = 7 := by rw [(mo_X4_rewriteWith a_2 p0 p1 p2 p3 (qP st h0 7) (qP st h0 8) _ _ hc_6).2.2.1]; exact hk_4
  refine lv_aload_n hx hb dX8_settle_20 rfl (lv_at hl 0 rfl) ?_
  refine q_gp (ci := 10) (C := RX8) (T := TX8) (N := 12) (k := 8) hx hb hts iRX8 hown hK hp hk_1 (by decide) rfl rfl (by decide) rfl (Or.inl (hts (.fieldLink RX8 63 "RecordBench" "work" "LRecordBench$Row;") (by decide +kernel))) (fun _ h9 => h9) dX8_settle_21 ?_
  obtain ⟨a_8, ha_9, hf⟩ := ono_some hf
  refine o_at ha_9 ?_
  obtain ⟨hk_10, hf⟩ := gd_some hf
  obtain ⟨r_13, st_11, hc_12, hf⟩ := bnd_some hf
  refine q_ci hp hA (va_runV (As := []) (rest := []) ⟨hx, hb, hml, hown, hts⟩ (c_X5_size l dC dI ka ad ct a_8 _ _ _ hc_12 _) (cwV 0 hts gq_X8_settle_X5_size_76 rfl rfl rfl (by decide +kernel) ⟨Nat.le_of_ble_eq_true rfl, Nat.le_of_ble_eq_true rfl⟩) ⟨PrC.blind _, q_rv7 hK hp hC hk_10, q_pre hp hK hN hZ hC hR hL hA⟩ rfl rfl hl.1 rfl (lv_room (Nat.le_of_ble_eq_true rfl)) dX8_settle_24 ⟨Nat.le_of_ble_eq_true rfl, Nat.le_of_ble_eq_true rfl⟩) (fun H locs hp => ?_)
  have hk_1 : qk st_11 h0 = 11 := by rw [(mo_X5_size a_8 _ _ _ hc_12).2.2.1]; exact hk_1
  have hk_4 : qk st_11 a_2 = 7 := by rw [(mo_X5_size a_8 _ _ _ hc_12).2.2.1]; exact hk_4
  have hk_10 : qk st_11 a_8 = 8 := by rw [(mo_X5_size a_8 _ _ _ hc_12).2.2.1]; exact hk_10
  refine lv_bipush (v := 120) hx hb dX8_settle_27 (by decide) ?_
  refine lv_icmp_le (tgt := 35) hx hb dX8_settle_29 (by decide) (fun c_14 => ?_) (fun c_14 => ?_)
  · have hf := pif_t c_14 hf
    refine o_aload_n hx hb dX8_settle_35 rfl (lv_at hl 1 rfl) ?_
    refine lv_aload_n hx hb dX8_settle_36 rfl (lv_at hl 0 rfl) ?_
    refine q_gp (ci := 10) (C := RX8) (T := TX8) (N := 12) (k := 8) hx hb hts iRX8 hown hK hp hk_1 (by decide) rfl rfl (by decide) rfl (Or.inl (hts (.fieldLink RX8 63 "RecordBench" "work" "LRecordBench$Row;") (by decide +kernel))) (fun _ h9 => h9) dX8_settle_37 ?_
    refine lv_iconst (v := 0) hx hb dX8_settle_40 (by decide) ?_
    refine lv_aload_n hx hb dX8_settle_41 rfl (lv_at hl 0 rfl) ?_
    refine q_gp (ci := 10) (C := RX8) (T := TX8) (N := 12) (k := 8) hx hb hts iRX8 hown hK hp hk_1 (by decide) rfl rfl (by decide) rfl (Or.inl (hts (.fieldLink RX8 63 "RecordBench" "work" "LRecordBench$Row;") (by decide +kernel))) (fun _ h9 => h9) dX8_settle_42 ?_
    obtain ⟨a_15, ha_16, hf⟩ := ono_some hf
    refine o_at ha_16 ?_
    obtain ⟨hk_17, hf⟩ := gd_some hf
    obtain ⟨r_20, st_18, hc_19, hf⟩ := bnd_some hf
    refine q_ci hp hA (va_runV (As := []) (rest := [.int 0, va_rf (Option.map ad (qP st_11 h0 8)), va_rf (Option.map ad p0)]) ⟨hx, hb, hml, hown, hts⟩ (c_X5_size l dC dI ka ad ct a_15 _ _ _ hc_19 _) (cwV 0 hts gq_X8_settle_X5_size_76 rfl rfl rfl (by decide +kernel) ⟨Nat.le_of_ble_eq_true rfl, Nat.le_of_ble_eq_true rfl⟩) ⟨PrC.blind _, q_rv7 hK hp hC hk_17, q_pre hp hK hN hZ hC hR hL hA⟩ rfl rfl hl.1 rfl (lv_room (by simp [rf_cat, vc_i, vc_l, vc_r, vc_n])) dX8_settle_45 ⟨Nat.le_of_ble_eq_true rfl, Nat.le_of_ble_eq_true rfl⟩) (fun H locs hp => ?_)
    have hk_1 : qk st_18 h0 = 11 := by rw [(mo_X5_size a_15 _ _ _ hc_19).2.2.1]; exact hk_1
    have hk_4 : qk st_18 a_2 = 7 := by rw [(mo_X5_size a_15 _ _ _ hc_19).2.2.1]; exact hk_4
    have hk_10 : qk st_18 a_8 = 8 := by rw [(mo_X5_size a_15 _ _ _ hc_19).2.2.1]; exact hk_10
    have hk_17 : qk st_18 a_15 = 8 := by rw [(mo_X5_size a_15 _ _ _ hc_19).2.2.1]; exact hk_17
    obtain ⟨a_21, ha_22, hf⟩ := ono_some hf
    refine o_at3 ha_22 ?_
    obtain ⟨hk_23, hf⟩ := gd_some hf
    obtain ⟨st_24, hc_25, hf⟩ := bnv_some hf
    refine q_cv hp hA (va_runV (As := [va_rf (Option.map ad (qP st_11 h0 8)), .int 0, .int r_20]) (rest := []) ⟨hx, hb, hml, hown, hts⟩ (c_X5_become l dC dI ka ad ct a_21 (qP st_11 h0 8) 0 r_20 _ _ hc_25 _) (cwV 3 hts gq_X8_settle_X5_become_132 rfl rfl rfl (by decide +kernel) ⟨Nat.le_of_ble_eq_true rfl, Nat.le_of_ble_eq_true rfl⟩) ⟨PrC.blind _, q_rv7 hK hp hC hk_23, q_pre hp hK hN hZ hC hR hL hA⟩ rfl rfl hl.1 rfl (lv_room (Nat.le_of_ble_eq_true rfl)) dX8_settle_48 ⟨Nat.le_of_ble_eq_true rfl, Nat.le_of_ble_eq_true rfl⟩) (fun H locs hp => ?_)
    have hk_1 : qk st_24 h0 = 11 := by rw [(mo_X5_become a_21 (qP st_11 h0 8) 0 r_20 _ _ hc_25).2.2.1]; exact hk_1
    have hk_4 : qk st_24 a_2 = 7 := by rw [(mo_X5_become a_21 (qP st_11 h0 8) 0 r_20 _ _ hc_25).2.2.1]; exact hk_4
    have hk_10 : qk st_24 a_8 = 8 := by rw [(mo_X5_become a_21 (qP st_11 h0 8) 0 r_20 _ _ hc_25).2.2.1]; exact hk_10
    have hk_17 : qk st_24 a_15 = 8 := by rw [(mo_X5_become a_21 (qP st_11 h0 8) 0 r_20 _ _ hc_25).2.2.1]; exact hk_17
    have hk_23 : qk st_24 a_21 = 8 := by rw [(mo_X5_become a_21 (qP st_11 h0 8) 0 r_20 _ _ hc_25).2.2.1]; exact hk_23
    refine o_aload_n hx hb dX8_settle_51 rfl (lv_at hl 1 rfl) ?_
    refine o_at ha_22 ?_
    obtain ⟨r_29, st_27, hc_28, hf⟩ := bnd_some hf
    refine q_ci hp hA (va_runV (As := []) (rest := []) ⟨hx, hb, hml, hown, hts⟩ (c_X5_size l dC dI ka ad ct a_21 _ _ _ hc_28 _) (cwV 0 hts gq_X8_settle_X5_size_76 rfl rfl rfl (by decide +kernel) ⟨Nat.le_of_ble_eq_true rfl, Nat.le_of_ble_eq_true rfl⟩) ⟨PrC.blind _, q_rv7 hK hp hC hk_23, q_pre hp hK hN hZ hC hR hL hA⟩ rfl rfl hl.1 rfl (lv_room (Nat.le_of_ble_eq_true rfl)) dX8_settle_52 ⟨Nat.le_of_ble_eq_true rfl, Nat.le_of_ble_eq_true rfl⟩) (fun H locs hp => ?_)
    have hk_1 : qk st_27 h0 = 11 := by rw [(mo_X5_size a_21 _ _ _ hc_28).2.2.1]; exact hk_1
    have hk_4 : qk st_27 a_2 = 7 := by rw [(mo_X5_size a_21 _ _ _ hc_28).2.2.1]; exact hk_4
    have hk_10 : qk st_27 a_8 = 8 := by rw [(mo_X5_size a_21 _ _ _ hc_28).2.2.1]; exact hk_10
    have hk_17 : qk st_27 a_15 = 8 := by rw [(mo_X5_size a_21 _ _ _ hc_28).2.2.1]; exact hk_17
    have hk_23 : qk st_27 a_21 = 8 := by rw [(mo_X5_size a_21 _ _ _ hc_28).2.2.1]; exact hk_23
    obtain ⟨e1, e2⟩ := pr_some hf
    exact W.iret (v := r_29) hx hb hr (fun t ht hW => ⟨⟨r_29, (), rfl, e1, Cp.end e2 hp ht⟩, hp.2.1.F ht⟩) hp.2.1.2.2 dX8_settle_55
  · have hf := pif_f c_14 hf
    refine lv_bipush (v := (-4)) hx hb dX8_settle_32 (by decide) ?_
    obtain ⟨e1, e2⟩ := pr_some hf
    exact W.iret (v := (-4)) hx hb hr (fun t ht hW => ⟨⟨(-4), (), rfl, e1, Cp.end e2 hp ht⟩, hp.2.1.F ht⟩) hp.2.1.2.2 dX8_settle_34
noncomputable def fX8_lookAlong (h0 : Nat) (p0 : Int32) (p1 : Int32) (p2 : Int32) (st : CS) : Option (Int32 × CS) := gd (qk st h0 = 11) (bnd (fX8_makeOf (qP st h0 2) p0 st) (fun r_4 st_2 => bnd (fX8_makeOf (qP st_2 h0 2) p1 st_2) (fun r_7 st_5 => bnd (fX8_makeOf (qP st_5 h0 2) p2 st_5) (fun r_10 st_8 => pif (r_4 = none) (some (((-1) : Int32), st_8)) (pif (r_7 = none) (some (((-1) : Int32), st_8)) (pif (r_10 = none) (some (((-1) : Int32), st_8)) (ono (qP st_8 h0 6) (fun a_14 => gd (qk st_8 a_14 = 10) (bnd (fX7_firstNumber (fX7_breaksN 12) a_14 r_4 r_7 r_10 1 0 st_8) (fun r_19 st_17 => nam (wI st_17 h0 11 r_19) (fun st_20 => ono (qP st_20 h0 6) (fun a_21 => gd (qk st_20 a_21 = 10) (bnd (fX7_whyBy (fX7_breaksN 12) a_21 (qI st_20 h0 11) r_4 r_7 r_10 1 0 st_20) (fun r_26 st_24 => some (r_26, st_24)))))))))))))))
set_option maxHeartbeats 1000000 in
theorem mo_X8_lookAlong (h0 : Nat) (p0 : Int32) (p1 : Int32) (p2 : Int32) (st : CS) (r : Int32) (st' : CS) (hf : fX8_lookAlong h0 p0 p1 p2 st = some (r, st')) : Ke st st' := by
  unfold fX8_lookAlong at hf
  have hm : Ke st st := Ke.rf
  obtain ⟨hk_1, hf⟩ := gd_some hf
  obtain ⟨r_4, st_2, hc_3, hf⟩ := bnd_some hf
  have hm := hm.tr (mo_X8_makeOf (qP st h0 2) p0 _ _ _ hc_3)
  obtain ⟨r_7, st_5, hc_6, hf⟩ := bnd_some hf
  have hm := hm.tr (mo_X8_makeOf (qP st_2 h0 2) p1 _ _ _ hc_6)
  obtain ⟨r_10, st_8, hc_9, hf⟩ := bnd_some hf
  have hm := hm.tr (mo_X8_makeOf (qP st_5 h0 2) p2 _ _ _ hc_9)
  rcases pif_or hf with ⟨c_11, hf⟩ | ⟨c_11, hf⟩
  · obtain ⟨e1, e2⟩ := pr_some hf
    exact e2 ▸ hm
  · rcases pif_or hf with ⟨c_12, hf⟩ | ⟨c_12, hf⟩
    · obtain ⟨e1, e2⟩ := pr_some hf
      exact e2 ▸ hm
    · rcases pif_or hf with ⟨c_13, hf⟩ | ⟨c_13, hf⟩
      · obtain ⟨e1, e2⟩ := pr_some hf
        exact e2 ▸ hm
      · obtain ⟨a_14, ha_15, hf⟩ := ono_some hf
        obtain ⟨hk_16, hf⟩ := gd_some hf
        obtain ⟨r_19, st_17, hc_18, hf⟩ := bnd_some hf
        have hm := hm.tr (mo_X7_firstNumber (fX7_breaksN 12) (mo_X7_breaksN 12) a_14 r_4 r_7 r_10 1 0 _ _ _ hc_18)
        obtain ⟨st_20, est_20, hf⟩ := nam_some hf
        have hm := hm.wI est_20
        obtain ⟨a_21, ha_22, hf⟩ := ono_some hf
        obtain ⟨hk_23, hf⟩ := gd_some hf
        obtain ⟨r_26, st_24, hc_25, hf⟩ := bnd_some hf
        have hm := hm.tr (mo_X7_whyBy (fX7_breaksN 12) (mo_X7_breaksN 12) a_21 (qI st_20 h0 11) r_4 r_7 r_10 1 0 _ _ _ hc_25)
        obtain ⟨e1, e2⟩ := pr_some hf
        exact e2 ▸ hm
def wq_X8_lookAlong : List Cond := .code yX8_lookAlong cX8_lookAlong 7 (some .int) :: (([.fieldLink RX8 24 "RecordBench" "makes" "[LRecordBench$Make;", .fieldLink RX8 56 "RecordBench" "walks" "LRecordBench$Walks;", .fieldLink RX8 73 "RecordBench" "latestNumber" "I", .methodLink RX8 136 yX8_makeOf, .static yX8_makeOf, .initialized RX8, .instanceMethod yX7_firstNumber, .selects RX7 yX7_firstNumber yX7_firstNumber, .initialized RX7, .instanceMethod yX7_whyBy, .selects RX7 yX7_whyBy yX7_whyBy, .code yX8_makeOf cX8_makeOf 2 (some (.object "RecordBench$Make")), .code yX7_firstNumber cX7_firstNumber 7 (some .int), .methodLink RX7 27 yX7_whyBy, .code yX7_whyBy cX7_whyBy 10 (some .int), .methodLink RX7 50 yX7_isCrowded, .static yX7_isCrowded, .methodLink RX7 58 yX7_recBreaks, .instanceMethod yX7_recBreaks, .selects RX7 yX7_recBreaks yX7_recBreaks, .methodLink RX7 31 yX1_knownAt, .instanceMethod yX1_knownAt, .selects RX1 yX1_knownAt yX1_knownAt, .initialized RX1, .methodLink RX7 37 yX7_isOtherSort, .static yX7_isOtherSort, .methodLink RX7 41 yX7_isNarrower, .static yX7_isNarrower, .methodLink RX7 44 yX0_hasOtherDefault, .instanceMethod yX0_hasOtherDefault, .selects RX0 yX0_hasOtherDefault yX0_hasOtherDefault, .initialized RX0, .code yX7_isCrowded cX7_isCrowded 7 (some .boolean), .methodLink RX7 69 yX0_sharesGroup, .instanceMethod yX0_sharesGroup, .selects RX0 yX0_sharesGroup yX0_sharesGroup, .code yX1_knownAt cX1_knownAt 3 (some (.object "RecordBench$Field")), .methodLink RX1 21 yX1_fieldAt, .instanceMethod yX1_fieldAt, .selects RX1 yX1_fieldAt yX1_fieldAt, .code yX1_fieldAt cX1_fieldAt 2 (some (.object "RecordBench$Field")), .fieldLink RX1 11 "RecordBench$Make" "fields" "[LRecordBench$Field;", .code yX0_sharesGroup cX0_sharesGroup 2 (some .boolean), .fieldLink RX0 18 "RecordBench$Field" "group" "I", .code yX7_recBreaks cX7_recBreaks 8 (some .boolean), .methodLink RX7 75 yX7_breaks, .instanceMethod yX7_breaks, .selects RX7 yX7_breaks yX7_breaks, .code yX7_breaks cX7_breaks 11 (some .boolean), .fieldLink RX7 9 "RecordBench$Walks" "makes" "[LRecordBench$Make;", .fieldLink RX7 15 "RecordBench$Walks" "seen" "[I", .methodLink RX7 23 yX7_firstNumber, .code yX7_isOtherSort cX7_isOtherSort 2 (some .boolean), .methodLink RX7 62 yX0_isOtherSort, .instanceMethod yX0_isOtherSort, .selects RX0 yX0_isOtherSort yX0_isOtherSort, .code yX0_isOtherSort cX0_isOtherSort 2 (some .boolean), .fieldLink RX0 15 "RecordBench$Field" "kind" "I", .methodLink RX0 51 yX0_isNumber, .instanceMethod yX0_isNumber, .selects RX0 yX0_isNumber yX0_isNumber, .code yX0_isNumber cX0_isNumber 1 (some .boolean), .code yX7_isNarrower cX7_isNarrower 2 (some .boolean), .methodLink RX7 64 yX0_isNarrower, .instanceMethod yX0_isNarrower, .selects RX0 yX0_isNarrower yX0_isNarrower, .code yX0_isNarrower cX0_isNarrower 2 (some .boolean), .code yX0_hasOtherDefault cX0_hasOtherDefault 2 (some .boolean), .fieldLink RX0 33 "RecordBench$Field" "value" "J", .fieldLink RX0 30 "RecordBench$Field" "text" "Ljava/lang/String;", .methodLink RX0 55 yJ0_equals_9ea2d, .instanceMethod yJ0_equals_9ea2d, .selects RJ0 yJ0_equals_9ea2d yJ0_equals_9ea2d, .initialized RJ0, .code yJ0_equals_9ea2d cJ0_equals_9ea2d 3 (some .boolean), .classLink RJ0 10 "java/lang/String", .fieldLink RJ0 38 "java/lang/String" "COMPACT_STRINGS" "Z", .fieldLink RJ0 15 "java/lang/String" "coder" "B", .fieldLink RJ0 9 "java/lang/String" "value" "[B", .methodLink RJ0 541 yJ1_equals_b5fdf, .static yJ1_equals_b5fdf, .initialized RJ1, .code yJ1_equals_b5fdf cJ1_equals_b5fdf 3 (some .boolean)] : List Cond) ++ wsX80 ++ wsX00 ++ wsX10 ++ wsX70 ++ wsJ00)
set_option maxRecDepth 20000 in
theorem gq_X8_lookAlong_X8_makeOf_136 : GoodIn wq_X8_lookAlong (va_wsS RX8 136 yX8_makeOf wq_X8_makeOf) := goodIn_app (goodIn_r _ [4, 5, 6] rfl rfl) (goodIn_r _ [12] rfl rfl)
theorem gs_wq_X8_lookAlong_wsX00 : GoodIn wq_X8_lookAlong wsX00 := fun w h => ⟨List.mem_cons_of_mem _ (List.mem_append_left _ (List.mem_append_left _ (List.mem_append_left _ (List.mem_append_right _ h)))), (gt_wsX00 w h).2⟩
theorem gs_wq_X8_lookAlong_wsX10 : GoodIn wq_X8_lookAlong wsX10 := fun w h => ⟨List.mem_cons_of_mem _ (List.mem_append_left _ (List.mem_append_left _ (List.mem_append_right _ h))), (gt_wsX10 w h).2⟩
theorem gs_wq_X8_lookAlong_wsX70 : GoodIn wq_X8_lookAlong wsX70 := fun w h => ⟨List.mem_cons_of_mem _ (List.mem_append_left _ (List.mem_append_right _ h)), (gt_wsX70 w h).2⟩
theorem gs_wq_X8_lookAlong_wsJ00 : GoodIn wq_X8_lookAlong wsJ00 := fun w h => ⟨List.mem_cons_of_mem _ (List.mem_append_right _ h), (gt_wsJ00 w h).2⟩
set_option maxRecDepth 20000 in
theorem gq_X8_lookAlong_X7_firstNumber_213 : GoodIn wq_X8_lookAlong (wq_X7_firstNumber) := (goodIn_ca (goodIn_ca (goodIn_ca (goodIn_ca (goodIn_r _ [13, 14, 10, 11, 9, 15, 16, 17, 18, 19, 20, 21, 22, 23, 24, 25, 26, 27, 28, 29, 30, 31, 32, 33, 34, 35, 36, 37, 38, 39, 40, 41, 42, 43, 44, 45, 46, 47, 48, 49, 50, 51, 52, 7, 8, 5, 6, 53, 54, 55, 56, 57, 58, 59, 60, 61, 62, 63, 64, 65, 66, 67, 68, 69, 70, 71, 72, 73, 74, 75, 76, 77, 78, 79, 80, 81, 82, 83, 12] rfl rfl) gs_wq_X8_lookAlong_wsX00) gs_wq_X8_lookAlong_wsX10) gs_wq_X8_lookAlong_wsX70) gs_wq_X8_lookAlong_wsJ00)
set_option maxRecDepth 20000 in
theorem gq_X8_lookAlong_X7_whyBy_217 : GoodIn wq_X8_lookAlong (wq_X7_whyBy) := (goodIn_ca (goodIn_ca (goodIn_ca (goodIn_ca (goodIn_r _ [15, 16, 17, 9, 18, 19, 20, 21, 22, 23, 24, 25, 26, 27, 28, 29, 30, 31, 32, 33, 34, 35, 36, 37, 38, 39, 40, 41, 42, 43, 44, 45, 46, 47, 48, 49, 50, 51, 52, 7, 8, 5, 6, 13, 14, 10, 11, 53, 54, 55, 56, 57, 58, 59, 60, 61, 62, 63, 64, 65, 66, 67, 68, 69, 70, 71, 72, 73, 74, 75, 76, 77, 78, 79, 80, 81, 82, 83, 12] rfl rfl) gs_wq_X8_lookAlong_wsX00) gs_wq_X8_lookAlong_wsX10) gs_wq_X8_lookAlong_wsX70) gs_wq_X8_lookAlong_wsJ00)
set_option maxHeartbeats 4000000 in
set_option maxRecDepth 100000 in
theorem c_X8_lookAlong (l : Launch) (dC : Nat → ClassId) (dI : Nat → Nat → Nat) (ka ad : Nat → Nat) (ct : Nat → ClassId) (h0 : Nat) (p0 : Int32) (p1 : Int32) (p2 : Int32) (st st' : CS) (r : Int32) (hf : fX8_lookAlong h0 p0 p1 p2 st = some (r, st')) (sz : Nat) : Met l yX8_lookAlong wq_X8_lookAlong ({ frames := 65, cells := 0, slots := 0, locals := 1872 }) (va_Pc [.ref (ad h0), .int p0, .int p1, .int p2] (PrC (dC, dI) ct ka ad st sz)) (va_Qi (fun r' (_ : Unit) => r' = r) (fun _ => CB (dC, dI) ct ka ad st' (aC ad st sz)) (aC ad st sz)) 0 0 (aC ad st sz) := by
  refine Met.ofW (cc := cX8_lookAlong) (maxL := 7) (ret := (some .int)) (by decide) rfl ?_
  intro p e s m args below meth c s₁ B hml hv
  obtain ⟨rfl, hsz, hw0, hK, hN, hZ, hC, hR, hL, hw1, hw2⟩ := hv
  have hx := B.exec
  have hb := B.bytes
  have hr := B.returns
  have hts := atoms_spec (ws := wq_X8_lookAlong) B.pre
  have hown : s.vm.findClass RX8 = some m.cls := findClass_of_methodNamed B.named
  have iRX8 : ∀ w ∈ u_ws RX8 TX8 12, w ∈ wq_X8_lookAlong := fun w h => List.mem_cons_of_mem _ (List.mem_append_left _ (List.mem_append_left _ (List.mem_append_left _ (List.mem_append_left _ (List.mem_append_right _ h)))))
  subst hsz
  have hp : Cp (dC, dI) ka ad ct (aC ad st s.heap.size) s.heap st s.heap [] := ⟨fun i a b => ⟨hw0 i a b, Or.inl ⟨i, a, b, rfl⟩⟩, va_S.rf, hw1, hw2⟩
  generalize hAe : aC ad st s.heap.size = A at hp hZ hC ⊢
  have hA : ∀ q : Nat, s.heap.size ≤ q → A q := fun q h => by rw [← hAe]; exact Or.inr h
  have hl := lv_entry ([.ref (ad h0), .int p0, .int p1, .int p2]) (n := 7) (Nat.le_of_ble_eq_true rfl)
  rw [lg_entry_eq]
  generalize (lg_sl ([.ref (ad h0), .int p0, .int p1, .int p2]) ++ List.replicate (7 - (lg_sl ([.ref (ad h0), .int p0, .int p1, .int p2])).length) Slot.unset).toArray = ls at hl ⊢
  have hl : lv_has ls 7 [(0, .ref (ad h0)), (1, .int p0), (2, .int p1), (3, .int p2)] := hl
  unfold fX8_lookAlong at hf
  refine lv_aload_n hx hb dX8_lookAlong_0 rfl (lv_at hl 0 rfl) ?_
  obtain ⟨hk_1, hf⟩ := gd_some hf
  refine q_gp (ci := 10) (C := RX8) (T := TX8) (N := 12) (k := 2) hx hb hts iRX8 hown hK hp hk_1 (by decide) rfl rfl (by decide) rfl (Or.inl (hts (.fieldLink RX8 24 "RecordBench" "makes" "[LRecordBench$Make;") (by decide +kernel))) (fun _ h9 => h9) dX8_lookAlong_1 ?_
  refine lv_iload_n hx hb dX8_lookAlong_4 rfl (lv_at hl 1 rfl) ?_
  obtain ⟨r_4, st_2, hc_3, hf⟩ := bnd_some hf
  refine q_cq hp hA (va_runS (As := [va_rf (Option.map ad (qP st h0 2)), .int p0]) (rest := []) ⟨hx, hb, hml, hown, hts⟩ (c_X8_makeOf l dC dI ka ad ct (qP st h0 2) p0 _ _ _ hc_3 _) (va_cwS 2 hts gq_X8_lookAlong_X8_makeOf_136 rfl rfl rfl (by decide +kernel) ⟨Nat.le_of_ble_eq_true rfl, Nat.le_of_ble_eq_true rfl⟩) ⟨PrC.blind _, q_pre hp hK hN hZ hC hR hL hA⟩ rfl rfl hl.1 rfl (lv_room (Nat.le_of_ble_eq_true rfl)) dX8_lookAlong_5 ⟨Nat.le_of_ble_eq_true rfl, Nat.le_of_ble_eq_true rfl⟩) (fun H locs hp => ?_)
  have hk_1 : qk st_2 h0 = 11 := by rw [(mo_X8_makeOf (qP st h0 2) p0 _ _ _ hc_3).2.2.1]; exact hk_1
  refine o_astore (i := 4) (lv' := [(4, va_rf (Option.map ad r_4)), (0, .ref (ad h0)), (1, .int p0), (2, .int p1), (3, .int p2)]) hx hb dX8_lookAlong_8 hl (by decide) rfl (fun ls hl => ?_)
  refine lv_aload_n hx hb dX8_lookAlong_10 rfl (lv_at hl 1 rfl) ?_
  refine q_gp (ci := 10) (C := RX8) (T := TX8) (N := 12) (k := 2) hx hb hts iRX8 hown hK hp hk_1 (by decide) rfl rfl (by decide) rfl (Or.inl (hts (.fieldLink RX8 24 "RecordBench" "makes" "[LRecordBench$Make;") (by decide +kernel))) (fun _ h9 => h9) dX8_lookAlong_11 ?_
  refine lv_iload_n hx hb dX8_lookAlong_14 rfl (lv_at hl 3 rfl) ?_
  obtain ⟨r_7, st_5, hc_6, hf⟩ := bnd_some hf
  refine q_cq hp hA (va_runS (As := [va_rf (Option.map ad (qP st_2 h0 2)), .int p1]) (rest := []) ⟨hx, hb, hml, hown, hts⟩ (c_X8_makeOf l dC dI ka ad ct (qP st_2 h0 2) p1 _ _ _ hc_6 _) (va_cwS 2 hts gq_X8_lookAlong_X8_makeOf_136 rfl rfl rfl (by decide +kernel) ⟨Nat.le_of_ble_eq_true rfl, Nat.le_of_ble_eq_true rfl⟩) ⟨PrC.blind _, q_pre hp hK hN hZ hC hR hL hA⟩ rfl rfl hl.1 rfl (lv_room (Nat.le_of_ble_eq_true rfl)) dX8_lookAlong_15 ⟨Nat.le_of_ble_eq_true rfl, Nat.le_of_ble_eq_true rfl⟩) (fun H locs hp => ?_)
  have hk_1 : qk st_5 h0 = 11 := by rw [(mo_X8_makeOf (qP st_2 h0 2) p1 _ _ _ hc_6).2.2.1]; exact hk_1
  refine o_astore (i := 5) (lv' := [(5, va_rf (Option.map ad r_7)), (4, va_rf (Option.map ad r_4)), (0, .ref (ad h0)), (1, .int p0), (2, .int p1), (3, .int p2)]) hx hb dX8_lookAlong_18 hl (by decide) (by simp [rf_cat, vc_i, vc_l, vc_r, vc_n]) (fun ls hl => ?_)
  refine lv_aload_n hx hb dX8_lookAlong_20 rfl (lv_at hl 2 rfl) ?_
  refine q_gp (ci := 10) (C := RX8) (T := TX8) (N := 12) (k := 2) hx hb hts iRX8 hown hK hp hk_1 (by decide) rfl rfl (by decide) rfl (Or.inl (hts (.fieldLink RX8 24 "RecordBench" "makes" "[LRecordBench$Make;") (by decide +kernel))) (fun _ h9 => h9) dX8_lookAlong_21 ?_
  refine lv_iload_n hx hb dX8_lookAlong_24 rfl (lv_at hl 5 rfl) ?_
  obtain ⟨r_10, st_8, hc_9, hf⟩ := bnd_some hf
  refine q_cq hp hA (va_runS (As := [va_rf (Option.map ad (qP st_5 h0 2)), .int p2]) (rest := []) ⟨hx, hb, hml, hown, hts⟩ (c_X8_makeOf l dC dI ka ad ct (qP st_5 h0 2) p2 _ _ _ hc_9 _) (va_cwS 2 hts gq_X8_lookAlong_X8_makeOf_136 rfl rfl rfl (by decide +kernel) ⟨Nat.le_of_ble_eq_true rfl, Nat.le_of_ble_eq_true rfl⟩) ⟨PrC.blind _, q_pre hp hK hN hZ hC hR hL hA⟩ rfl rfl hl.1 rfl (lv_room (Nat.le_of_ble_eq_true rfl)) dX8_lookAlong_25 ⟨Nat.le_of_ble_eq_true rfl, Nat.le_of_ble_eq_true rfl⟩) (fun H locs hp => ?_)
  have hk_1 : qk st_8 h0 = 11 := by rw [(mo_X8_makeOf (qP st_5 h0 2) p2 _ _ _ hc_9).2.2.1]; exact hk_1
  refine o_astore (i := 6) (lv' := [(6, va_rf (Option.map ad r_10)), (5, va_rf (Option.map ad r_7)), (4, va_rf (Option.map ad r_4)), (0, .ref (ad h0)), (1, .int p0), (2, .int p1), (3, .int p2)]) hx hb dX8_lookAlong_28 hl (by decide) (by simp [rf_cat, vc_i, vc_l, vc_r, vc_n]) (fun ls hl => ?_)
  refine o_aload hx hb dX8_lookAlong_30 (lv_at hl 2 rfl) ?_
  refine o_ifnull (tgt := 45) hx hb dX8_lookAlong_32 (by decide) (fun c_11 => ?_) (fun c_11 => ?_)
  · have hf := pif_t c_11 hf
    refine lv_iconst (v := (-1)) hx hb dX8_lookAlong_45 (by decide) ?_
    obtain ⟨e1, e2⟩ := pr_some hf
    exact W.iret (v := (-1)) hx hb hr (fun t ht hW => ⟨⟨(-1), (), rfl, e1, Cp.end e2 hp ht⟩, hp.2.1.F ht⟩) hp.2.1.2.2 dX8_lookAlong_46
  · have hf := pif_f c_11 hf
    refine o_aload hx hb dX8_lookAlong_35 (lv_at hl 1 rfl) ?_
    refine o_ifnull (tgt := 45) hx hb dX8_lookAlong_37 (by decide) (fun c_12 => ?_) (fun c_12 => ?_)
    · have hf := pif_t c_12 hf
      refine lv_iconst (v := (-1)) hx hb dX8_lookAlong_45 (by decide) ?_
      obtain ⟨e1, e2⟩ := pr_some hf
      exact W.iret (v := (-1)) hx hb hr (fun t ht hW => ⟨⟨(-1), (), rfl, e1, Cp.end e2 hp ht⟩, hp.2.1.F ht⟩) hp.2.1.2.2 dX8_lookAlong_46
    · have hf := pif_f c_12 hf
      refine o_aload hx hb dX8_lookAlong_40 (lv_at hl 0 rfl) ?_
      refine o_ifnonnull (tgt := 47) hx hb dX8_lookAlong_42 (by decide) (fun c_13 => ?_) (fun c_13 => ?_)
      · have hf := pif_f c_13 hf
        refine lv_aload_n hx hb dX8_lookAlong_47 rfl (lv_at hl 3 rfl) ?_
        refine lv_aload_n hx hb dX8_lookAlong_48 rfl (lv_at hl 3 rfl) ?_
        refine q_gp (ci := 10) (C := RX8) (T := TX8) (N := 12) (k := 6) hx hb hts iRX8 hown hK hp hk_1 (by decide) rfl rfl (by decide) rfl (Or.inl (hts (.fieldLink RX8 56 "RecordBench" "walks" "LRecordBench$Walks;") (by decide +kernel))) (fun _ h9 => h9) dX8_lookAlong_49 ?_
        refine o_aload hx hb dX8_lookAlong_52 (lv_at hl 2 rfl) ?_
        refine o_aload hx hb dX8_lookAlong_54 (lv_at hl 1 rfl) ?_
        refine o_aload hx hb dX8_lookAlong_56 (lv_at hl 0 rfl) ?_
        refine lv_iconst (v := 1) hx hb dX8_lookAlong_58 (by decide) ?_
        refine lv_iconst (v := 0) hx hb dX8_lookAlong_59 (by decide) ?_
        obtain ⟨a_14, ha_15, hf⟩ := ono_some hf
        refine o_at5 ha_15 ?_
        obtain ⟨hk_16, hf⟩ := gd_some hf
        obtain ⟨r_19, st_17, hc_18, hf⟩ := bnd_some hf
        refine q_ci hp hA (va_runVN (As := [va_rf (Option.map ad r_4), va_rf (Option.map ad r_7), va_rf (Option.map ad r_10), .int 1, .int 0]) (rest := [.ref (ad h0)]) ⟨hx, hb, hml, hown, hts⟩ (c_X7_firstNumber l dC dI ka ad ct (fX7_breaksN 12) (mo_X7_breaksN 12) (5 * 12) (144 * 12) (c_X7_breaksN l dC dI ka ad ct 12) a_14 r_4 r_7 r_10 1 0 _ _ _ hc_18 _) ⟨va_cnB 5 hts gq_X8_lookAlong_X7_firstNumber_213 rfl rfl rfl (hN.1 (.methodLinkNest RX8 213 yX7_firstNumber "RecordBench") (by decide +kernel)) (hts (.initialized RX7) (by decide +kernel)) (by decide +kernel) ⟨Nat.le_of_ble_eq_true rfl, Nat.le_of_ble_eq_true rfl⟩, (hts (.instanceMethod yX7_firstNumber) (by decide +kernel)), (hts (.selects RX7 yX7_firstNumber yX7_firstNumber) (by decide +kernel))⟩ ⟨PrC.blind _, q_rv9 hK hp hC hk_16, q_pre hp hK hN hZ hC hR hL hA⟩ rfl rfl hl.1 rfl (lv_room (Nat.le_of_ble_eq_true rfl)) dX8_lookAlong_60 ⟨Nat.le_of_ble_eq_true rfl, Nat.le_of_ble_eq_true rfl⟩) (fun H locs hp => ?_)
        have hk_1 : qk st_17 h0 = 11 := by rw [(mo_X7_firstNumber (fX7_breaksN 12) (mo_X7_breaksN 12) a_14 r_4 r_7 r_10 1 0 _ _ _ hc_18).2.2.1]; exact hk_1
        have hk_16 : qk st_17 a_14 = 10 := by rw [(mo_X7_firstNumber (fX7_breaksN 12) (mo_X7_breaksN 12) a_14 r_4 r_7 r_10 1 0 _ _ _ hc_18).2.2.1]; exact hk_16
        refine q_pi (ci := 10) (C := RX8) (T := TX8) (N := 12) (k := 11) (v := r_19) (ty := .int) hx hb hts iRX8 tyX8 tyX8_ok nmX8 hown hK hp hk_1 (by decide) rfl rfl (by decide) rfl (Or.inl (hts (.fieldLink RX8 73 "RecordBench" "latestNumber" "I") (by decide +kernel))) (fun _ h9 => h9) rfl (by decide +kernel) rfl rfl dX8_lookAlong_63 (fun H locs hp => ?_)
        obtain ⟨st_20, est_20, hf⟩ := nam_some hf
        rw [← est_20] at hp
        have hk_1 : qk st_20 h0 = 11 := by rw [est_20]; exact hk_1
        have hk_16 : qk st_20 a_14 = 10 := by rw [est_20]; exact hk_16
        refine lv_aload_n hx hb dX8_lookAlong_66 rfl (lv_at hl 3 rfl) ?_
        refine q_gp (ci := 10) (C := RX8) (T := TX8) (N := 12) (k := 6) hx hb hts iRX8 hown hK hp hk_1 (by decide) rfl rfl (by decide) rfl (Or.inl (hts (.fieldLink RX8 56 "RecordBench" "walks" "LRecordBench$Walks;") (by decide +kernel))) (fun _ h9 => h9) dX8_lookAlong_67 ?_
        refine lv_aload_n hx hb dX8_lookAlong_70 rfl (lv_at hl 3 rfl) ?_
        refine q_gi (ci := 10) (C := RX8) (T := TX8) (N := 12) (k := 11) hx hb hts iRX8 hown hK hp hk_1 (by decide) rfl rfl (by decide) rfl (Or.inl (hts (.fieldLink RX8 73 "RecordBench" "latestNumber" "I") (by decide +kernel))) (fun _ h9 => h9) dX8_lookAlong_71 ?_
        refine o_aload hx hb dX8_lookAlong_74 (lv_at hl 2 rfl) ?_
        refine o_aload hx hb dX8_lookAlong_76 (lv_at hl 1 rfl) ?_
        refine o_aload hx hb dX8_lookAlong_78 (lv_at hl 0 rfl) ?_
        refine lv_iconst (v := 1) hx hb dX8_lookAlong_80 (by decide) ?_
        refine lv_iconst (v := 0) hx hb dX8_lookAlong_81 (by decide) ?_
        obtain ⟨a_21, ha_22, hf⟩ := ono_some hf
        refine o_at6 ha_22 ?_
        obtain ⟨hk_23, hf⟩ := gd_some hf
        obtain ⟨r_26, st_24, hc_25, hf⟩ := bnd_some hf
        refine q_ci hp hA (va_runVN (As := [.int (qI st_20 h0 11), va_rf (Option.map ad r_4), va_rf (Option.map ad r_7), va_rf (Option.map ad r_10), .int 1, .int 0]) (rest := []) ⟨hx, hb, hml, hown, hts⟩ (c_X7_whyBy l dC dI ka ad ct (fX7_breaksN 12) (mo_X7_breaksN 12) (5 * 12) (144 * 12) (c_X7_breaksN l dC dI ka ad ct 12) a_21 (qI st_20 h0 11) r_4 r_7 r_10 1 0 _ _ _ hc_25 _) ⟨va_cnB 6 hts gq_X8_lookAlong_X7_whyBy_217 rfl rfl rfl (hN.1 (.methodLinkNest RX8 217 yX7_whyBy "RecordBench") (by decide +kernel)) (hts (.initialized RX7) (by decide +kernel)) (by decide +kernel) ⟨Nat.le_of_ble_eq_true rfl, Nat.le_of_ble_eq_true rfl⟩, (hts (.instanceMethod yX7_whyBy) (by decide +kernel)), (hts (.selects RX7 yX7_whyBy yX7_whyBy) (by decide +kernel))⟩ ⟨PrC.blind _, q_rv9 hK hp hC hk_23, q_pre hp hK hN hZ hC hR hL hA⟩ rfl rfl hl.1 rfl (lv_room (Nat.le_of_ble_eq_true rfl)) dX8_lookAlong_82 ⟨Nat.le_of_ble_eq_true rfl, Nat.le_of_ble_eq_true rfl⟩) (fun H locs hp => ?_)
        have hk_1 : qk st_24 h0 = 11 := by rw [(mo_X7_whyBy (fX7_breaksN 12) (mo_X7_breaksN 12) a_21 (qI st_20 h0 11) r_4 r_7 r_10 1 0 _ _ _ hc_25).2.2.1]; exact hk_1
        have hk_16 : qk st_24 a_14 = 10 := by rw [(mo_X7_whyBy (fX7_breaksN 12) (mo_X7_breaksN 12) a_21 (qI st_20 h0 11) r_4 r_7 r_10 1 0 _ _ _ hc_25).2.2.1]; exact hk_16
        have hk_23 : qk st_24 a_21 = 10 := by rw [(mo_X7_whyBy (fX7_breaksN 12) (mo_X7_breaksN 12) a_21 (qI st_20 h0 11) r_4 r_7 r_10 1 0 _ _ _ hc_25).2.2.1]; exact hk_23
        obtain ⟨e1, e2⟩ := pr_some hf
        exact W.iret (v := r_26) hx hb hr (fun t ht hW => ⟨⟨r_26, (), rfl, e1, Cp.end e2 hp ht⟩, hp.2.1.F ht⟩) hp.2.1.2.2 dX8_lookAlong_85
      · have hf := pif_t c_13 hf
        refine lv_iconst (v := (-1)) hx hb dX8_lookAlong_45 (by decide) ?_
        obtain ⟨e1, e2⟩ := pr_some hf
        exact W.iret (v := (-1)) hx hb hr (fun t ht hW => ⟨⟨(-1), (), rfl, e1, Cp.end e2 hp ht⟩, hp.2.1.F ht⟩) hp.2.1.2.2 dX8_lookAlong_46
noncomputable def fX8_feed (h0 : Nat) (p0 : Int32) (p1 : Int32) (p2 : Int32) (p3 : Int32) (p4 : Int32) (st : CS) : Option (Int32 × CS) := gd (qk st h0 = 11) (ono (qP st h0 0) (fun a_2 => gd (qk st a_2 = 8) (bnd (fX5_size a_2 st) (fun r_7 st_5 => pif ((r_7 + 20) ≤ 400) (ono (qP st_5 h0 0) (fun a_9 => gd (qk st_5 a_9 = 8) (bnv (fX5_pushWord a_9 p0 st_5) (fun st_12 => ono (qP st_12 h0 0) (fun a_15 => gd (qk st_12 a_15 = 8) (bnv (fX5_pushWord a_15 p1 st_12) (fun st_18 => ono (qP st_18 h0 0) (fun a_21 => gd (qk st_18 a_21 = 8) (bnv (fX5_pushWord a_21 p2 st_18) (fun st_24 => ono (qP st_24 h0 0) (fun a_27 => gd (qk st_24 a_27 = 8) (bnv (fX5_pushWord a_27 p3 st_24) (fun st_30 => ono (qP st_30 h0 0) (fun a_33 => gd (qk st_30 a_33 = 8) (bnv (fX5_pushWord a_33 p4 st_30) (fun st_36 => ono (qP st_36 h0 0) (fun a_39 => gd (qk st_36 a_39 = 8) (bnd (fX5_size a_39 st_36) (fun r_44 st_42 => some (r_44, st_42)))))))))))))))))))) (some (((-1) : Int32), st_5))))))
set_option maxHeartbeats 1000000 in
theorem mo_X8_feed (h0 : Nat) (p0 : Int32) (p1 : Int32) (p2 : Int32) (p3 : Int32) (p4 : Int32) (st : CS) (r : Int32) (st' : CS) (hf : fX8_feed h0 p0 p1 p2 p3 p4 st = some (r, st')) : Ke st st' := by
  unfold fX8_feed at hf
  have hm : Ke st st := Ke.rf
  obtain ⟨hk_1, hf⟩ := gd_some hf
  obtain ⟨a_2, ha_3, hf⟩ := ono_some hf
  obtain ⟨hk_4, hf⟩ := gd_some hf
  obtain ⟨r_7, st_5, hc_6, hf⟩ := bnd_some hf
  have hm := hm.tr (mo_X5_size a_2 _ _ _ hc_6)
  rcases pif_or hf with ⟨c_8, hf⟩ | ⟨c_8, hf⟩
  · obtain ⟨a_9, ha_10, hf⟩ := ono_some hf
    obtain ⟨hk_11, hf⟩ := gd_some hf
    obtain ⟨st_12, hc_13, hf⟩ := bnv_some hf
    have hm := hm.tr (mo_X5_pushWord a_9 p0 _ _ hc_13)
    obtain ⟨a_15, ha_16, hf⟩ := ono_some hf
    obtain ⟨hk_17, hf⟩ := gd_some hf
    obtain ⟨st_18, hc_19, hf⟩ := bnv_some hf
    have hm := hm.tr (mo_X5_pushWord a_15 p1 _ _ hc_19)
    obtain ⟨a_21, ha_22, hf⟩ := ono_some hf
    obtain ⟨hk_23, hf⟩ := gd_some hf
    obtain ⟨st_24, hc_25, hf⟩ := bnv_some hf
    have hm := hm.tr (mo_X5_pushWord a_21 p2 _ _ hc_25)
    obtain ⟨a_27, ha_28, hf⟩ := ono_some hf
    obtain ⟨hk_29, hf⟩ := gd_some hf
    obtain ⟨st_30, hc_31, hf⟩ := bnv_some hf
    have hm := hm.tr (mo_X5_pushWord a_27 p3 _ _ hc_31)
    obtain ⟨a_33, ha_34, hf⟩ := ono_some hf
    obtain ⟨hk_35, hf⟩ := gd_some hf
    obtain ⟨st_36, hc_37, hf⟩ := bnv_some hf
    have hm := hm.tr (mo_X5_pushWord a_33 p4 _ _ hc_37)
    obtain ⟨a_39, ha_40, hf⟩ := ono_some hf
    obtain ⟨hk_41, hf⟩ := gd_some hf
    obtain ⟨r_44, st_42, hc_43, hf⟩ := bnd_some hf
    have hm := hm.tr (mo_X5_size a_39 _ _ _ hc_43)
    obtain ⟨e1, e2⟩ := pr_some hf
    exact e2 ▸ hm
  · obtain ⟨e1, e2⟩ := pr_some hf
    exact e2 ▸ hm
def wq_X8_feed : List Cond := .code yX8_feed cX8_feed 6 (some .int) :: (([.fieldLink RX8 14 "RecordBench" "tape" "LRecordBench$Row;", .methodLink RX8 76 yX5_size, .instanceMethod yX5_size, .selects RX5 yX5_size yX5_size, .initialized RX5, .methodLink RX8 80 yX5_pushWord, .instanceMethod yX5_pushWord, .selects RX5 yX5_pushWord yX5_pushWord, .code yX5_size cX5_size 1 (some .int), .fieldLink RX5 21 "RecordBench$Row" "size" "I", .code yX5_pushWord cX5_pushWord 2 none, .methodLink RX5 25 yX5_push, .instanceMethod yX5_push, .selects RX5 yX5_push yX5_push, .code yX5_push cX5_push 2 none, .fieldLink RX5 15 "RecordBench$Row" "bytes" "[I"] : List Cond) ++ wsX80 ++ wsX50)
theorem gs_wq_X8_feed_wsX50 : GoodIn wq_X8_feed wsX50 := fun w h => ⟨List.mem_cons_of_mem _ (List.mem_append_right _ h), (gt_wsX50 w h).2⟩
set_option maxRecDepth 20000 in
theorem gq_X8_feed_X5_size_76 : GoodIn wq_X8_feed (wsV RX8 76 RX5 yX5_size wq_X5_size) := goodIn_app (goodIn_r _ [2, 3, 4, 5] rfl rfl) (goodIn_ca (goodIn_r _ [9, 10] rfl rfl) gs_wq_X8_feed_wsX50)
set_option maxRecDepth 20000 in
theorem gq_X8_feed_X5_pushWord_80 : GoodIn wq_X8_feed (wsV RX8 80 RX5 yX5_pushWord wq_X5_pushWord) := goodIn_app (goodIn_r _ [6, 7, 8, 5] rfl rfl) (goodIn_ca (goodIn_r _ [11, 12, 13, 14, 5, 15, 10, 16] rfl rfl) gs_wq_X8_feed_wsX50)
set_option maxHeartbeats 4000000 in
set_option maxRecDepth 100000 in
theorem c_X8_feed (l : Launch) (dC : Nat → ClassId) (dI : Nat → Nat → Nat) (ka ad : Nat → Nat) (ct : Nat → ClassId) (h0 : Nat) (p0 : Int32) (p1 : Int32) (p2 : Int32) (p3 : Int32) (p4 : Int32) (st st' : CS) (r : Int32) (hf : fX8_feed h0 p0 p1 p2 p3 p4 st = some (r, st')) (sz : Nat) : Met l yX8_feed wq_X8_feed ({ frames := 2, cells := 0, slots := 0, locals := 50 }) (va_Pc [.ref (ad h0), .int p0, .int p1, .int p2, .int p3, .int p4] (PrC (dC, dI) ct ka ad st sz)) (va_Qi (fun r' (_ : Unit) => r' = r) (fun _ => CB (dC, dI) ct ka ad st' (aC ad st sz)) (aC ad st sz)) 0 0 (aC ad st sz) := by
  refine Met.ofW (cc := cX8_feed) (maxL := 6) (ret := (some .int)) (by decide) rfl ?_
  intro p e s m args below meth c s₁ B hml hv
  obtain ⟨rfl, hsz, hw0, hK, hN, hZ, hC, hR, hL, hw1, hw2⟩ := hv
  have hx := B.exec
  have hb := B.bytes
  have hr := B.returns
  have hts := atoms_spec (ws := wq_X8_feed) B.pre
  have hown : s.vm.findClass RX8 = some m.cls := findClass_of_methodNamed B.named
  have iRX8 : ∀ w ∈ u_ws RX8 TX8 12, w ∈ wq_X8_feed := fun w h => List.mem_cons_of_mem _ (List.mem_append_left _ (List.mem_append_right _ h))
  subst hsz
  have hp : Cp (dC, dI) ka ad ct (aC ad st s.heap.size) s.heap st s.heap [] := ⟨fun i a b => ⟨hw0 i a b, Or.inl ⟨i, a, b, rfl⟩⟩, va_S.rf, hw1, hw2⟩
  generalize hAe : aC ad st s.heap.size = A at hp hZ hC ⊢
  have hA : ∀ q : Nat, s.heap.size ≤ q → A q := fun q h => by rw [← hAe]; exact Or.inr h
  have hl := lv_entry ([.ref (ad h0), .int p0, .int p1, .int p2, .int p3, .int p4]) (n := 6) (Nat.le_of_ble_eq_true rfl)
  rw [lg_entry_eq]
  generalize (lg_sl ([.ref (ad h0), .int p0, .int p1, .int p2, .int p3, .int p4]) ++ List.replicate (6 - (lg_sl ([.ref (ad h0), .int p0, .int p1, .int p2, .int p3, .int p4])).length) Slot.unset).toArray = ls at hl ⊢
  have hl : lv_has ls 6 [(0, .ref (ad h0)), (1, .int p0), (2, .int p1), (3, .int p2), (4, .int p3), (5, .int p4)] := hl
  unfold fX8_feed at hf
  refine lv_aload_n hx hb dX8_feed_0 rfl (lv_at hl 0 rfl) ?_
  obtain ⟨hk_1, hf⟩ := gd_some hf
  refine q_gp (ci := 10) (C := RX8) (T := TX8) (N := 12) (k := 0) hx hb hts iRX8 hown hK hp hk_1 (by decide) rfl rfl (by decide) rfl (Or.inl (hts (.fieldLink RX8 14 "RecordBench" "tape" "LRecordBench$Row;") (by decide +kernel))) (fun _ h9 => h9) dX8_feed_1 ?_
  obtain ⟨a_2, ha_3, hf⟩ := ono_some hf
  refine o_at ha_3 ?_
  obtain ⟨hk_4, hf⟩ := gd_some hf
  obtain ⟨r_7, st_5, hc_6, hf⟩ := bnd_some hf
  refine q_ci hp hA (va_runV (As := []) (rest := []) ⟨hx, hb, hml, hown, hts⟩ (c_X5_size l dC dI ka ad ct a_2 _ _ _ hc_6 _) (cwV 0 hts gq_X8_feed_X5_size_76 rfl rfl rfl (by decide +kernel) ⟨Nat.le_of_ble_eq_true rfl, Nat.le_of_ble_eq_true rfl⟩) ⟨PrC.blind _, q_rv7 hK hp hC hk_4, q_pre hp hK hN hZ hC hR hL hA⟩ rfl rfl hl.1 rfl (lv_room (Nat.le_of_ble_eq_true rfl)) dX8_feed_4 ⟨Nat.le_of_ble_eq_true rfl, Nat.le_of_ble_eq_true rfl⟩) (fun H locs hp => ?_)
  have hk_1 : qk st_5 h0 = 11 := by rw [(mo_X5_size a_2 _ _ _ hc_6).2.2.1]; exact hk_1
  have hk_4 : qk st_5 a_2 = 8 := by rw [(mo_X5_size a_2 _ _ _ hc_6).2.2.1]; exact hk_4
  refine lv_bipush (v := 20) hx hb dX8_feed_7 (by decide) ?_
  refine lv_iadd hx hb dX8_feed_9 ?_
  refine lv_sipush (v := 400) hx hb dX8_feed_10 (by decide) ?_
  refine lv_icmp_le (tgt := 18) hx hb dX8_feed_13 (by decide) (fun c_8 => ?_) (fun c_8 => ?_)
  · have hf := pif_t c_8 hf
    refine lv_aload_n hx hb dX8_feed_18 rfl (lv_at hl 0 rfl) ?_
    refine q_gp (ci := 10) (C := RX8) (T := TX8) (N := 12) (k := 0) hx hb hts iRX8 hown hK hp hk_1 (by decide) rfl rfl (by decide) rfl (Or.inl (hts (.fieldLink RX8 14 "RecordBench" "tape" "LRecordBench$Row;") (by decide +kernel))) (fun _ h9 => h9) dX8_feed_19 ?_
    refine lv_iload_n hx hb dX8_feed_22 rfl (lv_at hl 1 rfl) ?_
    obtain ⟨a_9, ha_10, hf⟩ := ono_some hf
    refine o_at1 ha_10 ?_
    obtain ⟨hk_11, hf⟩ := gd_some hf
    obtain ⟨st_12, hc_13, hf⟩ := bnv_some hf
    refine q_cv hp hA (va_runV (As := [.int p0]) (rest := []) ⟨hx, hb, hml, hown, hts⟩ (c_X5_pushWord l dC dI ka ad ct a_9 p0 _ _ hc_13 _) (cwV 1 hts gq_X8_feed_X5_pushWord_80 rfl rfl rfl (by decide +kernel) ⟨Nat.le_of_ble_eq_true rfl, Nat.le_of_ble_eq_true rfl⟩) ⟨PrC.blind _, q_rv7 hK hp hC hk_11, q_pre hp hK hN hZ hC hR hL hA⟩ rfl rfl hl.1 rfl (lv_room (Nat.le_of_ble_eq_true rfl)) dX8_feed_23 ⟨Nat.le_of_ble_eq_true rfl, Nat.le_of_ble_eq_true rfl⟩) (fun H locs hp => ?_)
    have hk_1 : qk st_12 h0 = 11 := by rw [(mo_X5_pushWord a_9 p0 _ _ hc_13).2.2.1]; exact hk_1
    have hk_4 : qk st_12 a_2 = 8 := by rw [(mo_X5_pushWord a_9 p0 _ _ hc_13).2.2.1]; exact hk_4
    have hk_11 : qk st_12 a_9 = 8 := by rw [(mo_X5_pushWord a_9 p0 _ _ hc_13).2.2.1]; exact hk_11
    refine lv_aload_n hx hb dX8_feed_26 rfl (lv_at hl 0 rfl) ?_
    refine q_gp (ci := 10) (C := RX8) (T := TX8) (N := 12) (k := 0) hx hb hts iRX8 hown hK hp hk_1 (by decide) rfl rfl (by decide) rfl (Or.inl (hts (.fieldLink RX8 14 "RecordBench" "tape" "LRecordBench$Row;") (by decide +kernel))) (fun _ h9 => h9) dX8_feed_27 ?_
    refine lv_iload_n hx hb dX8_feed_30 rfl (lv_at hl 2 rfl) ?_
    obtain ⟨a_15, ha_16, hf⟩ := ono_some hf
    refine o_at1 ha_16 ?_
    obtain ⟨hk_17, hf⟩ := gd_some hf
    obtain ⟨st_18, hc_19, hf⟩ := bnv_some hf
    refine q_cv hp hA (va_runV (As := [.int p1]) (rest := []) ⟨hx, hb, hml, hown, hts⟩ (c_X5_pushWord l dC dI ka ad ct a_15 p1 _ _ hc_19 _) (cwV 1 hts gq_X8_feed_X5_pushWord_80 rfl rfl rfl (by decide +kernel) ⟨Nat.le_of_ble_eq_true rfl, Nat.le_of_ble_eq_true rfl⟩) ⟨PrC.blind _, q_rv7 hK hp hC hk_17, q_pre hp hK hN hZ hC hR hL hA⟩ rfl rfl hl.1 rfl (lv_room (Nat.le_of_ble_eq_true rfl)) dX8_feed_31 ⟨Nat.le_of_ble_eq_true rfl, Nat.le_of_ble_eq_true rfl⟩) (fun H locs hp => ?_)
    have hk_1 : qk st_18 h0 = 11 := by rw [(mo_X5_pushWord a_15 p1 _ _ hc_19).2.2.1]; exact hk_1
    have hk_4 : qk st_18 a_2 = 8 := by rw [(mo_X5_pushWord a_15 p1 _ _ hc_19).2.2.1]; exact hk_4
    have hk_11 : qk st_18 a_9 = 8 := by rw [(mo_X5_pushWord a_15 p1 _ _ hc_19).2.2.1]; exact hk_11
    have hk_17 : qk st_18 a_15 = 8 := by rw [(mo_X5_pushWord a_15 p1 _ _ hc_19).2.2.1]; exact hk_17
    refine lv_aload_n hx hb dX8_feed_34 rfl (lv_at hl 0 rfl) ?_
    refine q_gp (ci := 10) (C := RX8) (T := TX8) (N := 12) (k := 0) hx hb hts iRX8 hown hK hp hk_1 (by decide) rfl rfl (by decide) rfl (Or.inl (hts (.fieldLink RX8 14 "RecordBench" "tape" "LRecordBench$Row;") (by decide +kernel))) (fun _ h9 => h9) dX8_feed_35 ?_
    refine lv_iload_n hx hb dX8_feed_38 rfl (lv_at hl 3 rfl) ?_
    obtain ⟨a_21, ha_22, hf⟩ := ono_some hf
    refine o_at1 ha_22 ?_
    obtain ⟨hk_23, hf⟩ := gd_some hf
    obtain ⟨st_24, hc_25, hf⟩ := bnv_some hf
    refine q_cv hp hA (va_runV (As := [.int p2]) (rest := []) ⟨hx, hb, hml, hown, hts⟩ (c_X5_pushWord l dC dI ka ad ct a_21 p2 _ _ hc_25 _) (cwV 1 hts gq_X8_feed_X5_pushWord_80 rfl rfl rfl (by decide +kernel) ⟨Nat.le_of_ble_eq_true rfl, Nat.le_of_ble_eq_true rfl⟩) ⟨PrC.blind _, q_rv7 hK hp hC hk_23, q_pre hp hK hN hZ hC hR hL hA⟩ rfl rfl hl.1 rfl (lv_room (Nat.le_of_ble_eq_true rfl)) dX8_feed_39 ⟨Nat.le_of_ble_eq_true rfl, Nat.le_of_ble_eq_true rfl⟩) (fun H locs hp => ?_)
    have hk_1 : qk st_24 h0 = 11 := by rw [(mo_X5_pushWord a_21 p2 _ _ hc_25).2.2.1]; exact hk_1
    have hk_4 : qk st_24 a_2 = 8 := by rw [(mo_X5_pushWord a_21 p2 _ _ hc_25).2.2.1]; exact hk_4
    have hk_11 : qk st_24 a_9 = 8 := by rw [(mo_X5_pushWord a_21 p2 _ _ hc_25).2.2.1]; exact hk_11
    have hk_17 : qk st_24 a_15 = 8 := by rw [(mo_X5_pushWord a_21 p2 _ _ hc_25).2.2.1]; exact hk_17
    have hk_23 : qk st_24 a_21 = 8 := by rw [(mo_X5_pushWord a_21 p2 _ _ hc_25).2.2.1]; exact hk_23
    refine lv_aload_n hx hb dX8_feed_42 rfl (lv_at hl 0 rfl) ?_
    refine q_gp (ci := 10) (C := RX8) (T := TX8) (N := 12) (k := 0) hx hb hts iRX8 hown hK hp hk_1 (by decide) rfl rfl (by decide) rfl (Or.inl (hts (.fieldLink RX8 14 "RecordBench" "tape" "LRecordBench$Row;") (by decide +kernel))) (fun _ h9 => h9) dX8_feed_43 ?_
    refine lv_iload hx hb dX8_feed_46 (lv_at hl 4 rfl) ?_
    obtain ⟨a_27, ha_28, hf⟩ := ono_some hf
    refine o_at1 ha_28 ?_
    obtain ⟨hk_29, hf⟩ := gd_some hf
    obtain ⟨st_30, hc_31, hf⟩ := bnv_some hf
    refine q_cv hp hA (va_runV (As := [.int p3]) (rest := []) ⟨hx, hb, hml, hown, hts⟩ (c_X5_pushWord l dC dI ka ad ct a_27 p3 _ _ hc_31 _) (cwV 1 hts gq_X8_feed_X5_pushWord_80 rfl rfl rfl (by decide +kernel) ⟨Nat.le_of_ble_eq_true rfl, Nat.le_of_ble_eq_true rfl⟩) ⟨PrC.blind _, q_rv7 hK hp hC hk_29, q_pre hp hK hN hZ hC hR hL hA⟩ rfl rfl hl.1 rfl (lv_room (Nat.le_of_ble_eq_true rfl)) dX8_feed_48 ⟨Nat.le_of_ble_eq_true rfl, Nat.le_of_ble_eq_true rfl⟩) (fun H locs hp => ?_)
    have hk_1 : qk st_30 h0 = 11 := by rw [(mo_X5_pushWord a_27 p3 _ _ hc_31).2.2.1]; exact hk_1
    have hk_4 : qk st_30 a_2 = 8 := by rw [(mo_X5_pushWord a_27 p3 _ _ hc_31).2.2.1]; exact hk_4
    have hk_11 : qk st_30 a_9 = 8 := by rw [(mo_X5_pushWord a_27 p3 _ _ hc_31).2.2.1]; exact hk_11
    have hk_17 : qk st_30 a_15 = 8 := by rw [(mo_X5_pushWord a_27 p3 _ _ hc_31).2.2.1]; exact hk_17
    have hk_23 : qk st_30 a_21 = 8 := by rw [(mo_X5_pushWord a_27 p3 _ _ hc_31).2.2.1]; exact hk_23
    have hk_29 : qk st_30 a_27 = 8 := by rw [(mo_X5_pushWord a_27 p3 _ _ hc_31).2.2.1]; exact hk_29
    refine lv_aload_n hx hb dX8_feed_51 rfl (lv_at hl 0 rfl) ?_
    refine q_gp (ci := 10) (C := RX8) (T := TX8) (N := 12) (k := 0) hx hb hts iRX8 hown hK hp hk_1 (by decide) rfl rfl (by decide) rfl (Or.inl (hts (.fieldLink RX8 14 "RecordBench" "tape" "LRecordBench$Row;") (by decide +kernel))) (fun _ h9 => h9) dX8_feed_52 ?_
    refine lv_iload hx hb dX8_feed_55 (lv_at hl 5 rfl) ?_
    obtain ⟨a_33, ha_34, hf⟩ := ono_some hf
    refine o_at1 ha_34 ?_
    obtain ⟨hk_35, hf⟩ := gd_some hf
    obtain ⟨st_36, hc_37, hf⟩ := bnv_some hf
    refine q_cv hp hA (va_runV (As := [.int p4]) (rest := []) ⟨hx, hb, hml, hown, hts⟩ (c_X5_pushWord l dC dI ka ad ct a_33 p4 _ _ hc_37 _) (cwV 1 hts gq_X8_feed_X5_pushWord_80 rfl rfl rfl (by decide +kernel) ⟨Nat.le_of_ble_eq_true rfl, Nat.le_of_ble_eq_true rfl⟩) ⟨PrC.blind _, q_rv7 hK hp hC hk_35, q_pre hp hK hN hZ hC hR hL hA⟩ rfl rfl hl.1 rfl (lv_room (Nat.le_of_ble_eq_true rfl)) dX8_feed_57 ⟨Nat.le_of_ble_eq_true rfl, Nat.le_of_ble_eq_true rfl⟩) (fun H locs hp => ?_)
    have hk_1 : qk st_36 h0 = 11 := by rw [(mo_X5_pushWord a_33 p4 _ _ hc_37).2.2.1]; exact hk_1
    have hk_4 : qk st_36 a_2 = 8 := by rw [(mo_X5_pushWord a_33 p4 _ _ hc_37).2.2.1]; exact hk_4
    have hk_11 : qk st_36 a_9 = 8 := by rw [(mo_X5_pushWord a_33 p4 _ _ hc_37).2.2.1]; exact hk_11
    have hk_17 : qk st_36 a_15 = 8 := by rw [(mo_X5_pushWord a_33 p4 _ _ hc_37).2.2.1]; exact hk_17
    have hk_23 : qk st_36 a_21 = 8 := by rw [(mo_X5_pushWord a_33 p4 _ _ hc_37).2.2.1]; exact hk_23
    have hk_29 : qk st_36 a_27 = 8 := by rw [(mo_X5_pushWord a_33 p4 _ _ hc_37).2.2.1]; exact hk_29
    have hk_35 : qk st_36 a_33 = 8 := by rw [(mo_X5_pushWord a_33 p4 _ _ hc_37).2.2.1]; exact hk_35
    refine lv_aload_n hx hb dX8_feed_60 rfl (lv_at hl 0 rfl) ?_
    refine q_gp (ci := 10) (C := RX8) (T := TX8) (N := 12) (k := 0) hx hb hts iRX8 hown hK hp hk_1 (by decide) rfl rfl (by decide) rfl (Or.inl (hts (.fieldLink RX8 14 "RecordBench" "tape" "LRecordBench$Row;") (by decide +kernel))) (fun _ h9 => h9) dX8_feed_61 ?_
    obtain ⟨a_39, ha_40, hf⟩ := ono_some hf
    refine o_at ha_40 ?_
    obtain ⟨hk_41, hf⟩ := gd_some hf
    obtain ⟨r_44, st_42, hc_43, hf⟩ := bnd_some hf
    refine q_ci hp hA (va_runV (As := []) (rest := []) ⟨hx, hb, hml, hown, hts⟩ (c_X5_size l dC dI ka ad ct a_39 _ _ _ hc_43 _) (cwV 0 hts gq_X8_feed_X5_size_76 rfl rfl rfl (by decide +kernel) ⟨Nat.le_of_ble_eq_true rfl, Nat.le_of_ble_eq_true rfl⟩) ⟨PrC.blind _, q_rv7 hK hp hC hk_41, q_pre hp hK hN hZ hC hR hL hA⟩ rfl rfl hl.1 rfl (lv_room (Nat.le_of_ble_eq_true rfl)) dX8_feed_64 ⟨Nat.le_of_ble_eq_true rfl, Nat.le_of_ble_eq_true rfl⟩) (fun H locs hp => ?_)
    have hk_1 : qk st_42 h0 = 11 := by rw [(mo_X5_size a_39 _ _ _ hc_43).2.2.1]; exact hk_1
    have hk_4 : qk st_42 a_2 = 8 := by rw [(mo_X5_size a_39 _ _ _ hc_43).2.2.1]; exact hk_4
    have hk_11 : qk st_42 a_9 = 8 := by rw [(mo_X5_size a_39 _ _ _ hc_43).2.2.1]; exact hk_11
    have hk_17 : qk st_42 a_15 = 8 := by rw [(mo_X5_size a_39 _ _ _ hc_43).2.2.1]; exact hk_17
    have hk_23 : qk st_42 a_21 = 8 := by rw [(mo_X5_size a_39 _ _ _ hc_43).2.2.1]; exact hk_23
    have hk_29 : qk st_42 a_27 = 8 := by rw [(mo_X5_size a_39 _ _ _ hc_43).2.2.1]; exact hk_29
    have hk_35 : qk st_42 a_33 = 8 := by rw [(mo_X5_size a_39 _ _ _ hc_43).2.2.1]; exact hk_35
    have hk_41 : qk st_42 a_39 = 8 := by rw [(mo_X5_size a_39 _ _ _ hc_43).2.2.1]; exact hk_41
    obtain ⟨e1, e2⟩ := pr_some hf
    exact W.iret (v := r_44) hx hb hr (fun t ht hW => ⟨⟨r_44, (), rfl, e1, Cp.end e2 hp ht⟩, hp.2.1.F ht⟩) hp.2.1.2.2 dX8_feed_67
  · have hf := pif_f c_8 hf
    refine lv_iconst (v := (-1)) hx hb dX8_feed_16 (by decide) ?_
    obtain ⟨e1, e2⟩ := pr_some hf
    exact W.iret (v := (-1)) hx hb hr (fun t ht hW => ⟨⟨(-1), (), rfl, e1, Cp.end e2 hp ht⟩, hp.2.1.F ht⟩) hp.2.1.2.2 dX8_feed_17
noncomputable def fX8_end (h0 : Nat) (p0 : Int32) (st : CS) : Option (Int32 × CS) := gd (qk st h0 = 11) (ono (qP st h0 0) (fun a_2 => gd (qk st a_2 = 8) (bnd (fX5_cut a_2 p0 st) (fun r_7 st_5 => gd (narrow .boolean (.int r_7) = .int r_7) (some (r_7, st_5))))))
set_option maxHeartbeats 1000000 in
theorem mo_X8_end (h0 : Nat) (p0 : Int32) (st : CS) (r : Int32) (st' : CS) (hf : fX8_end h0 p0 st = some (r, st')) : Ke st st' := by
  unfold fX8_end at hf
  have hm : Ke st st := Ke.rf
  obtain ⟨hk_1, hf⟩ := gd_some hf
  obtain ⟨a_2, ha_3, hf⟩ := ono_some hf
  obtain ⟨hk_4, hf⟩ := gd_some hf
  obtain ⟨r_7, st_5, hc_6, hf⟩ := bnd_some hf
  have hm := hm.tr (mo_X5_cut a_2 p0 _ _ _ hc_6)
  obtain ⟨hz, hf⟩ := gd_some hf
  obtain ⟨e1, e2⟩ := pr_some hf
  exact e2 ▸ hm
def wq_X8_end : List Cond := .code yX8_end cX8_end 2 (some .boolean) :: (([.fieldLink RX8 14 "RecordBench" "tape" "LRecordBench$Row;", .methodLink RX8 83 yX5_cut, .instanceMethod yX5_cut, .selects RX5 yX5_cut yX5_cut, .initialized RX5, .code yX5_cut cX5_cut 2 (some .boolean), .fieldLink RX5 21 "RecordBench$Row" "size" "I"] : List Cond) ++ wsX80 ++ wsX50)
theorem gs_wq_X8_end_wsX50 : GoodIn wq_X8_end wsX50 := fun w h => ⟨List.mem_cons_of_mem _ (List.mem_append_right _ h), (gt_wsX50 w h).2⟩
set_option maxRecDepth 20000 in
theorem gq_X8_end_X5_cut_83 : GoodIn wq_X8_end (wsV RX8 83 RX5 yX5_cut wq_X5_cut) := goodIn_app (goodIn_r _ [2, 3, 4, 5] rfl rfl) (goodIn_ca (goodIn_r _ [6, 7] rfl rfl) gs_wq_X8_end_wsX50)
set_option maxHeartbeats 4000000 in
set_option maxRecDepth 100000 in
theorem c_X8_end (l : Launch) (dC : Nat → ClassId) (dI : Nat → Nat → Nat) (ka ad : Nat → Nat) (ct : Nat → ClassId) (h0 : Nat) (p0 : Int32) (st st' : CS) (r : Int32) (hf : fX8_end h0 p0 st = some (r, st')) (sz : Nat) : Met l yX8_end wq_X8_end ({ frames := 1, cells := 0, slots := 0, locals := 25 }) (va_Pc [.ref (ad h0), .int p0] (PrC (dC, dI) ct ka ad st sz)) (va_Qi (fun r' (_ : Unit) => r' = r) (fun _ => CB (dC, dI) ct ka ad st' (aC ad st sz)) (aC ad st sz)) 0 0 (aC ad st sz) := by
  refine Met.ofW (cc := cX8_end) (maxL := 2) (ret := (some .boolean)) (by decide) rfl ?_
  intro p e s m args below meth c s₁ B hml hv
  obtain ⟨rfl, hsz, hw0, hK, hN, hZ, hC, hR, hL, hw1, hw2⟩ := hv
  have hx := B.exec
  have hb := B.bytes
  have hr := B.returns
  have hts := atoms_spec (ws := wq_X8_end) B.pre
  have hown : s.vm.findClass RX8 = some m.cls := findClass_of_methodNamed B.named
  have iRX8 : ∀ w ∈ u_ws RX8 TX8 12, w ∈ wq_X8_end := fun w h => List.mem_cons_of_mem _ (List.mem_append_left _ (List.mem_append_right _ h))
  subst hsz
  have hp : Cp (dC, dI) ka ad ct (aC ad st s.heap.size) s.heap st s.heap [] := ⟨fun i a b => ⟨hw0 i a b, Or.inl ⟨i, a, b, rfl⟩⟩, va_S.rf, hw1, hw2⟩
  generalize hAe : aC ad st s.heap.size = A at hp hZ hC ⊢
  have hA : ∀ q : Nat, s.heap.size ≤ q → A q := fun q h => by rw [← hAe]; exact Or.inr h
  have hl := lv_entry ([.ref (ad h0), .int p0]) (n := 2) (Nat.le_of_ble_eq_true rfl)
  rw [lg_entry_eq]
  generalize (lg_sl ([.ref (ad h0), .int p0]) ++ List.replicate (2 - (lg_sl ([.ref (ad h0), .int p0])).length) Slot.unset).toArray = ls at hl ⊢
  have hl : lv_has ls 2 [(0, .ref (ad h0)), (1, .int p0)] := hl
  unfold fX8_end at hf
  refine lv_aload_n hx hb dX8_end_0 rfl (lv_at hl 0 rfl) ?_
  obtain ⟨hk_1, hf⟩ := gd_some hf
  refine q_gp (ci := 10) (C := RX8) (T := TX8) (N := 12) (k := 0) hx hb hts iRX8 hown hK hp hk_1 (by decide) rfl rfl (by decide) rfl (Or.inl (hts (.fieldLink RX8 14 "RecordBench" "tape" "LRecordBench$Row;") (by decide +kernel))) (fun _ h9 => h9) dX8_end_1 ?_
  refine lv_iload_n hx hb dX8_end_4 rfl (lv_at hl 1 rfl) ?_
  obtain ⟨a_2, ha_3, hf⟩ := ono_some hf
  refine o_at1 ha_3 ?_
  obtain ⟨hk_4, hf⟩ := gd_some hf
  obtain ⟨r_7, st_5, hc_6, hf⟩ := bnd_some hf
  refine q_ci hp hA (va_runV (As := [.int p0]) (rest := []) ⟨hx, hb, hml, hown, hts⟩ (c_X5_cut l dC dI ka ad ct a_2 p0 _ _ _ hc_6 _) (cwV 1 hts gq_X8_end_X5_cut_83 rfl rfl rfl (by decide +kernel) ⟨Nat.le_of_ble_eq_true rfl, Nat.le_of_ble_eq_true rfl⟩) ⟨PrC.blind _, q_rv7 hK hp hC hk_4, q_pre hp hK hN hZ hC hR hL hA⟩ rfl rfl hl.1 rfl (lv_room (Nat.le_of_ble_eq_true rfl)) dX8_end_5 ⟨Nat.le_of_ble_eq_true rfl, Nat.le_of_ble_eq_true rfl⟩) (fun H locs hp => ?_)
  have hk_1 : qk st_5 h0 = 11 := by rw [(mo_X5_cut a_2 p0 _ _ _ hc_6).2.2.1]; exact hk_1
  have hk_4 : qk st_5 a_2 = 8 := by rw [(mo_X5_cut a_2 p0 _ _ _ hc_6).2.2.1]; exact hk_4
  obtain ⟨hz, hf⟩ := gd_some hf
  obtain ⟨e1, e2⟩ := pr_some hf
  exact W.zret (v := r_7) hx hb hr hz (fun t ht hW => ⟨⟨r_7, (), rfl, e1, Cp.end e2 hp ht⟩, hp.2.1.F ht⟩) hp.2.1.2.2 dX8_end_8
noncomputable def fX8_fault (h0 : Nat) (p0 : Int32) (st : CS) : Option (Int32 × CS) := pif (p0 = 0) (gd (qk st h0 = 11) (some (qI st h0 9, st))) (pif (p0 = 1) (gd (qk st h0 = 11) (some (qI st h0 10, st))) (some (((-1) : Int32), st)))
set_option maxHeartbeats 1000000 in
theorem mo_X8_fault (h0 : Nat) (p0 : Int32) (st : CS) (r : Int32) (st' : CS) (hf : fX8_fault h0 p0 st = some (r, st')) : Ke st st' := by
  unfold fX8_fault at hf
  have hm : Ke st st := Ke.rf
  rcases pif_or hf with ⟨c_1, hf⟩ | ⟨c_1, hf⟩
  · obtain ⟨hk_4, hf⟩ := gd_some hf
    obtain ⟨e1, e2⟩ := pr_some hf
    exact e2 ▸ hm
  · rcases pif_or hf with ⟨c_2, hf⟩ | ⟨c_2, hf⟩
    · obtain ⟨hk_3, hf⟩ := gd_some hf
      obtain ⟨e1, e2⟩ := pr_some hf
      exact e2 ▸ hm
    · obtain ⟨e1, e2⟩ := pr_some hf
      exact e2 ▸ hm
def wq_X8_fault : List Cond := .code yX8_fault cX8_fault 2 (some .int) :: (([.fieldLink RX8 70 "RecordBench" "latestPlace" "I", .fieldLink RX8 66 "RecordBench" "latestFault" "I"] : List Cond) ++ wsX80)
set_option maxHeartbeats 4000000 in
set_option maxRecDepth 100000 in
theorem c_X8_fault (l : Launch) (dC : Nat → ClassId) (dI : Nat → Nat → Nat) (ka ad : Nat → Nat) (ct : Nat → ClassId) (h0 : Nat) (p0 : Int32) (st st' : CS) (r : Int32) (hf : fX8_fault h0 p0 st = some (r, st')) (sz : Nat) : Met l yX8_fault wq_X8_fault ({ frames := 0, cells := 0, slots := 0, locals := 0 }) (va_Pc [.ref (ad h0), .int p0] (PrC (dC, dI) ct ka ad st sz)) (va_Qi (fun r' (_ : Unit) => r' = r) (fun _ => CB (dC, dI) ct ka ad st' (aC ad st sz)) (aC ad st sz)) 0 0 (aC ad st sz) := by
  refine Met.ofW (cc := cX8_fault) (maxL := 2) (ret := (some .int)) (by decide) rfl ?_
  intro p e s m args below meth c s₁ B hml hv
  obtain ⟨rfl, hsz, hw0, hK, hN, hZ, hC, hR, hL, hw1, hw2⟩ := hv
  have hx := B.exec
  have hb := B.bytes
  have hr := B.returns
  have hts := atoms_spec (ws := wq_X8_fault) B.pre
  have hown : s.vm.findClass RX8 = some m.cls := findClass_of_methodNamed B.named
  have iRX8 : ∀ w ∈ u_ws RX8 TX8 12, w ∈ wq_X8_fault := fun w h => List.mem_cons_of_mem _ (List.mem_append_right _ h)
  subst hsz
  have hp : Cp (dC, dI) ka ad ct (aC ad st s.heap.size) s.heap st s.heap [] := ⟨fun i a b => ⟨hw0 i a b, Or.inl ⟨i, a, b, rfl⟩⟩, va_S.rf, hw1, hw2⟩
  generalize hAe : aC ad st s.heap.size = A at hp hZ hC ⊢
  have hA : ∀ q : Nat, s.heap.size ≤ q → A q := fun q h => by rw [← hAe]; exact Or.inr h
  have hl := lv_entry ([.ref (ad h0), .int p0]) (n := 2) (Nat.le_of_ble_eq_true rfl)
  rw [lg_entry_eq]
  generalize (lg_sl ([.ref (ad h0), .int p0]) ++ List.replicate (2 - (lg_sl ([.ref (ad h0), .int p0])).length) Slot.unset).toArray = ls at hl ⊢
  have hl : lv_has ls 2 [(0, .ref (ad h0)), (1, .int p0)] := hl
  unfold fX8_fault at hf
  refine lv_iload_n hx hb dX8_fault_0 rfl (lv_at hl 1 rfl) ?_
  refine lv_if_ne (tgt := 9) hx hb dX8_fault_1 (by decide) (fun c_1 => ?_) (fun c_1 => ?_)
  · have hf := pif_f c_1 hf
    refine lv_iload_n hx hb dX8_fault_9 rfl (lv_at hl 1 rfl) ?_
    refine lv_iconst (v := 1) hx hb dX8_fault_10 (by decide) ?_
    refine lv_icmp_ne (tgt := 21) hx hb dX8_fault_11 (by decide) (fun c_2 => ?_) (fun c_2 => ?_)
    · have hf := pif_f c_2 hf
      refine lv_iconst (v := (-1)) hx hb dX8_fault_21 (by decide) ?_
      obtain ⟨e1, e2⟩ := pr_some hf
      exact W.iret (v := (-1)) hx hb hr (fun t ht hW => ⟨⟨(-1), (), rfl, e1, Cp.end e2 hp ht⟩, hp.2.1.F ht⟩) hp.2.1.2.2 dX8_fault_22
    · have hf := pif_t c_2 hf
      refine lv_aload_n hx hb dX8_fault_14 rfl (lv_at hl 0 rfl) ?_
      obtain ⟨hk_3, hf⟩ := gd_some hf
      refine q_gi (ci := 10) (C := RX8) (T := TX8) (N := 12) (k := 10) hx hb hts iRX8 hown hK hp hk_3 (by decide) rfl rfl (by decide) rfl (Or.inl (hts (.fieldLink RX8 70 "RecordBench" "latestPlace" "I") (by decide +kernel))) (fun _ h9 => h9) dX8_fault_15 ?_
      refine lv_goto (tgt := 22) hx hb dX8_fault_18 (by decide) ?_
      obtain ⟨e1, e2⟩ := pr_some hf
      exact W.iret (v := qI st h0 10) hx hb hr (fun t ht hW => ⟨⟨qI st h0 10, (), rfl, e1, Cp.end e2 hp ht⟩, hp.2.1.F ht⟩) hp.2.1.2.2 dX8_fault_22
  · have hf := pif_t c_1 hf
    refine lv_aload_n hx hb dX8_fault_4 rfl (lv_at hl 0 rfl) ?_
    obtain ⟨hk_4, hf⟩ := gd_some hf
    refine q_gi (ci := 10) (C := RX8) (T := TX8) (N := 12) (k := 9) hx hb hts iRX8 hown hK hp hk_4 (by decide) rfl rfl (by decide) rfl (Or.inl (hts (.fieldLink RX8 66 "RecordBench" "latestFault" "I") (by decide +kernel))) (fun _ h9 => h9) dX8_fault_5 ?_
    obtain ⟨e1, e2⟩ := pr_some hf
    exact W.iret (v := qI st h0 9) hx hb hr (fun t ht hW => ⟨⟨qI st h0 9, (), rfl, e1, Cp.end e2 hp ht⟩, hp.2.1.F ht⟩) hp.2.1.2.2 dX8_fault_8
noncomputable def fX8_field (h0 : Nat) (p0 : Int32) (p1 : Int32) (p2 : Int32) (st : CS) : Option (Int32 × CS) := gd (qk st h0 = 11) (bnd (fX8_fieldOf h0 p0 p1 st) (fun r_4 st_2 => pif (r_4 = none) (some (((-1) : Int32), st_2)) (pif (p2 = 0) (ono r_4 (fun a_7 => gd (qk st_2 a_7 = 3) (some (qI st_2 a_7 1, st_2)))) (pif (p2 = 1) (ono r_4 (fun a_10 => gd (qk st_2 a_10 = 3) (some (qI st_2 a_10 2, st_2)))) (pif (p2 = 2) (ono r_4 (fun a_13 => gd (qk st_2 a_13 = 3) (some (qI st_2 a_13 3, st_2)))) (pif (p2 = 3) (ono r_4 (fun a_16 => gd (qk st_2 a_16 = 3) (ono (qP st_2 a_16 4) (fun a_19 => gd (qk st_2 a_19 = 1) (bnd (fJ0_length_8abf5 a_19 st_2) (fun r_24 st_22 => some (r_24, st_22))))))) (some (((-1) : Int32), st_2))))))))
set_option maxHeartbeats 1000000 in
theorem mo_X8_field (h0 : Nat) (p0 : Int32) (p1 : Int32) (p2 : Int32) (st : CS) (r : Int32) (st' : CS) (hf : fX8_field h0 p0 p1 p2 st = some (r, st')) : Ke st st' := by
  unfold fX8_field at hf
  have hm : Ke st st := Ke.rf
  obtain ⟨hk_1, hf⟩ := gd_some hf
  obtain ⟨r_4, st_2, hc_3, hf⟩ := bnd_some hf
  have hm := hm.tr (mo_X8_fieldOf h0 p0 p1 _ _ _ hc_3)
  rcases pif_or hf with ⟨c_5, hf⟩ | ⟨c_5, hf⟩
  · obtain ⟨e1, e2⟩ := pr_some hf
    exact e2 ▸ hm
  · rcases pif_or hf with ⟨c_60, hf⟩ | ⟨c_60, hf⟩
    · obtain ⟨a_7, ha_8, hf⟩ := ono_some hf
      obtain ⟨hk_9, hf⟩ := gd_some hf
      obtain ⟨e1, e2⟩ := pr_some hf
      exact e2 ▸ hm
    · skip
      rcases pif_or hf with ⟨c_61, hf⟩ | ⟨c_61, hf⟩
      · obtain ⟨a_10, ha_11, hf⟩ := ono_some hf
        obtain ⟨hk_12, hf⟩ := gd_some hf
        obtain ⟨e1, e2⟩ := pr_some hf
        exact e2 ▸ hm
      · skip
        rcases pif_or hf with ⟨c_62, hf⟩ | ⟨c_62, hf⟩
        · obtain ⟨a_13, ha_14, hf⟩ := ono_some hf
          obtain ⟨hk_15, hf⟩ := gd_some hf
          obtain ⟨e1, e2⟩ := pr_some hf
          exact e2 ▸ hm
        · skip
          rcases pif_or hf with ⟨c_63, hf⟩ | ⟨c_63, hf⟩
          · obtain ⟨a_16, ha_17, hf⟩ := ono_some hf
            obtain ⟨hk_18, hf⟩ := gd_some hf
            obtain ⟨a_19, ha_20, hf⟩ := ono_some hf
            obtain ⟨hk_21, hf⟩ := gd_some hf
            obtain ⟨r_24, st_22, hc_23, hf⟩ := bnd_some hf
            have hm := hm.tr (mo_J0_length_8abf5 a_19 _ _ _ hc_23)
            obtain ⟨e1, e2⟩ := pr_some hf
            exact e2 ▸ hm
          · skip
            obtain ⟨e1, e2⟩ := pr_some hf
            exact e2 ▸ hm
def wq_X8_field : List Cond := .code yX8_field cX8_field 5 (some .int) :: (([.methodLink RX8 100 yX8_fieldOf, .instanceMethod yX8_fieldOf, .selects RX8 yX8_fieldOf yX8_fieldOf, .initialized RX8, .methodLink RX8 119 yJ0_length_8abf5, .instanceMethod yJ0_length_8abf5, .selects RJ0 yJ0_length_8abf5 yJ0_length_8abf5, .initialized RJ0, .code yX8_fieldOf cX8_fieldOf 4 (some (.object "RecordBench$Field")), .fieldLink RX8 24 "RecordBench" "makes" "[LRecordBench$Make;", .methodLink RX8 136 yX8_makeOf, .static yX8_makeOf, .methodLink RX8 225 yX1_fieldAt, .instanceMethod yX1_fieldAt, .selects RX1 yX1_fieldAt yX1_fieldAt, .initialized RX1, .code yX8_makeOf cX8_makeOf 2 (some (.object "RecordBench$Make")), .code yX1_fieldAt cX1_fieldAt 2 (some (.object "RecordBench$Field")), .fieldLink RX1 11 "RecordBench$Make" "fields" "[LRecordBench$Field;", .code yJ0_length_8abf5 cJ0_length_8abf5 1 (some .int), .fieldLink RJ0 9 "java/lang/String" "value" "[B", .methodLink RJ0 335 yJ0_coder_7d493, .instanceMethod yJ0_coder_7d493, .selects RJ0 yJ0_coder_7d493 yJ0_coder_7d493, .code yJ0_coder_7d493 cJ0_coder_7d493 1 (some .byte), .fieldLink RJ0 38 "java/lang/String" "COMPACT_STRINGS" "Z", .fieldLink RJ0 15 "java/lang/String" "coder" "B"] : List Cond) ++ wsX00 ++ wsX80 ++ wsX10 ++ wsJ00)
theorem gs_wq_X8_field_wsX80 : GoodIn wq_X8_field wsX80 := fun w h => ⟨List.mem_cons_of_mem _ (List.mem_append_left _ (List.mem_append_left _ (List.mem_append_right _ h))), (gt_wsX80 w h).2⟩
theorem gs_wq_X8_field_wsX10 : GoodIn wq_X8_field wsX10 := fun w h => ⟨List.mem_cons_of_mem _ (List.mem_append_left _ (List.mem_append_right _ h)), (gt_wsX10 w h).2⟩
set_option maxRecDepth 20000 in
theorem gq_X8_field_X8_fieldOf_100 : GoodIn wq_X8_field (wsV RX8 100 RX8 yX8_fieldOf wq_X8_fieldOf) := goodIn_app (goodIn_r _ [1, 2, 3, 4] rfl rfl) (goodIn_ca (goodIn_ca (goodIn_r _ [9, 10, 11, 12, 4, 13, 14, 15, 16, 17, 18, 19] rfl rfl) gs_wq_X8_field_wsX80) gs_wq_X8_field_wsX10)
theorem gs_wq_X8_field_wsJ00 : GoodIn wq_X8_field wsJ00 := fun w h => ⟨List.mem_cons_of_mem _ (List.mem_append_right _ h), (gt_wsJ00 w h).2⟩
set_option maxRecDepth 20000 in
theorem gq_X8_field_J0_length_8abf5_119 : GoodIn wq_X8_field (wsV RX8 119 RJ0 yJ0_length_8abf5 wq_J0_length_8abf5) := goodIn_app (goodIn_r _ [5, 6, 7, 8] rfl rfl) (goodIn_ca (goodIn_r _ [20, 21, 22, 23, 24, 8, 25, 26, 27] rfl rfl) gs_wq_X8_field_wsJ00)
set_option maxHeartbeats 4000000 in
set_option maxRecDepth 100000 in
theorem c_X8_field (l : Launch) (dC : Nat → ClassId) (dI : Nat → Nat → Nat) (ka ad : Nat → Nat) (ct : Nat → ClassId) (h0 : Nat) (p0 : Int32) (p1 : Int32) (p2 : Int32) (st st' : CS) (r : Int32) (hf : fX8_field h0 p0 p1 p2 st = some (r, st')) (sz : Nat) : Met l yX8_field wq_X8_field ({ frames := 2, cells := 0, slots := 0, locals := 52 }) (va_Pc [.ref (ad h0), .int p0, .int p1, .int p2] (PrC (dC, dI) ct ka ad st sz)) (va_Qi (fun r' (_ : Unit) => r' = r) (fun _ => CB (dC, dI) ct ka ad st' (aC ad st sz)) (aC ad st sz)) 0 0 (aC ad st sz) := by
  refine Met.ofW (cc := cX8_field) (maxL := 5) (ret := (some .int)) (by decide) rfl ?_
  intro p e s m args below meth c s₁ B hml hv
  obtain ⟨rfl, hsz, hw0, hK, hN, hZ, hC, hR, hL, hw1, hw2⟩ := hv
  have hx := B.exec
  have hb := B.bytes
  have hr := B.returns
  have hts := atoms_spec (ws := wq_X8_field) B.pre
  have hown : s.vm.findClass RX8 = some m.cls := findClass_of_methodNamed B.named
  have iRX0 : ∀ w ∈ u_ws RX0 TX0 7, w ∈ wq_X8_field := fun w h => List.mem_cons_of_mem _ (List.mem_append_left _ (List.mem_append_left _ (List.mem_append_left _ (List.mem_append_right _ h))))
  subst hsz
  have hp : Cp (dC, dI) ka ad ct (aC ad st s.heap.size) s.heap st s.heap [] := ⟨fun i a b => ⟨hw0 i a b, Or.inl ⟨i, a, b, rfl⟩⟩, va_S.rf, hw1, hw2⟩
  generalize hAe : aC ad st s.heap.size = A at hp hZ hC ⊢
  have hA : ∀ q : Nat, s.heap.size ≤ q → A q := fun q h => by rw [← hAe]; exact Or.inr h
  have hl := lv_entry ([.ref (ad h0), .int p0, .int p1, .int p2]) (n := 5) (Nat.le_of_ble_eq_true rfl)
  rw [lg_entry_eq]
  generalize (lg_sl ([.ref (ad h0), .int p0, .int p1, .int p2]) ++ List.replicate (5 - (lg_sl ([.ref (ad h0), .int p0, .int p1, .int p2])).length) Slot.unset).toArray = ls at hl ⊢
  have hl : lv_has ls 5 [(0, .ref (ad h0)), (1, .int p0), (2, .int p1), (3, .int p2)] := hl
  unfold fX8_field at hf
  refine lv_aload_n hx hb dX8_field_0 rfl (lv_at hl 0 rfl) ?_
  refine lv_iload_n hx hb dX8_field_1 rfl (lv_at hl 1 rfl) ?_
  refine lv_iload_n hx hb dX8_field_2 rfl (lv_at hl 2 rfl) ?_
  obtain ⟨hk_1, hf⟩ := gd_some hf
  obtain ⟨r_4, st_2, hc_3, hf⟩ := bnd_some hf
  refine q_cq hp hA (va_runV (As := [.int p0, .int p1]) (rest := []) ⟨hx, hb, hml, hown, hts⟩ (c_X8_fieldOf l dC dI ka ad ct h0 p0 p1 _ _ _ hc_3 _) (cwV 2 hts gq_X8_field_X8_fieldOf_100 rfl rfl rfl (by decide +kernel) ⟨Nat.le_of_ble_eq_true rfl, Nat.le_of_ble_eq_true rfl⟩) ⟨PrC.blind _, q_rv10 hK hp hC hk_1, q_pre hp hK hN hZ hC hR hL hA⟩ rfl rfl hl.1 rfl (lv_room (Nat.le_of_ble_eq_true rfl)) dX8_field_3 ⟨Nat.le_of_ble_eq_true rfl, Nat.le_of_ble_eq_true rfl⟩) (fun H locs hp => ?_)
  have hk_1 : qk st_2 h0 = 11 := by rw [(mo_X8_fieldOf h0 p0 p1 _ _ _ hc_3).2.2.1]; exact hk_1
  refine o_astore (i := 4) (lv' := [(4, va_rf (Option.map ad r_4)), (0, .ref (ad h0)), (1, .int p0), (2, .int p1), (3, .int p2)]) hx hb dX8_field_6 hl (by decide) rfl (fun ls hl => ?_)
  refine o_aload hx hb dX8_field_8 (lv_at hl 0 rfl) ?_
  refine o_ifnonnull (tgt := 15) hx hb dX8_field_10 (by decide) (fun c_5 => ?_) (fun c_5 => ?_)
  · have hf := pif_f c_5 hf
    refine lv_iload_n hx hb dX8_field_15 rfl (lv_at hl 4 rfl) ?_
    by_cases c_60 : p2 = 0
    · have hf := pif_t c_60 hf
      refine lv_tableIn (tgt := 48) hx hb dX8_field_16 (by rw [c_60]; decide) (by rw [c_60]; decide) (off := 32) (by rw [c_60]; rfl) (by decide) ?_
      refine o_aload hx hb dX8_field_48 (lv_at hl 0 rfl) ?_
      obtain ⟨a_7, ha_8, hf⟩ := ono_some hf
      refine o_at ha_8 ?_
      obtain ⟨hk_9, hf⟩ := gd_some hf
      refine q_gi (ci := 2) (C := RX0) (T := TX0) (N := 7) (k := 1) hx hb hts iRX0 hown hK hp hk_9 (by decide) rfl rfl (by decide) rfl (Or.inr ⟨_, va_Nw.use rfl (hN.1 (.fieldLinkNest RX8 104 "RecordBench$Field" "kind" "I" "RecordBench") (by decide +kernel))⟩) (fun _ h9 => h9) dX8_field_50 ?_
      obtain ⟨e1, e2⟩ := pr_some hf
      exact W.iret (v := qI st_2 a_7 1) hx hb hr (fun t ht hW => ⟨⟨qI st_2 a_7 1, (), rfl, e1, Cp.end e2 hp ht⟩, hp.2.1.F ht⟩) hp.2.1.2.2 dX8_field_53
    · have hf := pif_f c_60 hf
      by_cases c_61 : p2 = 1
      · have hf := pif_t c_61 hf
        refine lv_tableIn (tgt := 54) hx hb dX8_field_16 (by rw [c_61]; decide) (by rw [c_61]; decide) (off := 38) (by rw [c_61]; rfl) (by decide) ?_
        refine o_aload hx hb dX8_field_54 (lv_at hl 0 rfl) ?_
        obtain ⟨a_10, ha_11, hf⟩ := ono_some hf
        refine o_at ha_11 ?_
        obtain ⟨hk_12, hf⟩ := gd_some hf
        refine q_gi (ci := 2) (C := RX0) (T := TX0) (N := 7) (k := 2) hx hb hts iRX0 hown hK hp hk_12 (by decide) rfl rfl (by decide) rfl (Or.inr ⟨_, va_Nw.use rfl (hN.1 (.fieldLinkNest RX8 109 "RecordBench$Field" "group" "I" "RecordBench") (by decide +kernel))⟩) (fun _ h9 => h9) dX8_field_56 ?_
        obtain ⟨e1, e2⟩ := pr_some hf
        exact W.iret (v := qI st_2 a_10 2) hx hb hr (fun t ht hW => ⟨⟨qI st_2 a_10 2, (), rfl, e1, Cp.end e2 hp ht⟩, hp.2.1.F ht⟩) hp.2.1.2.2 dX8_field_59
      · have hf := pif_f c_61 hf
        by_cases c_62 : p2 = 2
        · have hf := pif_t c_62 hf
          refine lv_tableIn (tgt := 60) hx hb dX8_field_16 (by rw [c_62]; decide) (by rw [c_62]; decide) (off := 44) (by rw [c_62]; rfl) (by decide) ?_
          refine o_aload hx hb dX8_field_60 (lv_at hl 0 rfl) ?_
          obtain ⟨a_13, ha_14, hf⟩ := ono_some hf
          refine o_at ha_14 ?_
          obtain ⟨hk_15, hf⟩ := gd_some hf
          refine q_gi (ci := 2) (C := RX0) (T := TX0) (N := 7) (k := 3) hx hb hts iRX0 hown hK hp hk_15 (by decide) rfl rfl (by decide) rfl (Or.inr ⟨_, va_Nw.use rfl (hN.1 (.fieldLinkNest RX8 112 "RecordBench$Field" "rec" "I" "RecordBench") (by decide +kernel))⟩) (fun _ h9 => h9) dX8_field_62 ?_
          obtain ⟨e1, e2⟩ := pr_some hf
          exact W.iret (v := qI st_2 a_13 3) hx hb hr (fun t ht hW => ⟨⟨qI st_2 a_13 3, (), rfl, e1, Cp.end e2 hp ht⟩, hp.2.1.F ht⟩) hp.2.1.2.2 dX8_field_65
        · have hf := pif_f c_62 hf
          by_cases c_63 : p2 = 3
          · have hf := pif_t c_63 hf
            refine lv_tableIn (tgt := 66) hx hb dX8_field_16 (by rw [c_63]; decide) (by rw [c_63]; decide) (off := 50) (by rw [c_63]; rfl) (by decide) ?_
            refine o_aload hx hb dX8_field_66 (lv_at hl 0 rfl) ?_
            obtain ⟨a_16, ha_17, hf⟩ := ono_some hf
            refine o_at ha_17 ?_
            obtain ⟨hk_18, hf⟩ := gd_some hf
            refine q_gp (ci := 2) (C := RX0) (T := TX0) (N := 7) (k := 4) hx hb hts iRX0 hown hK hp hk_18 (by decide) rfl rfl (by decide) rfl (Or.inr ⟨_, va_Nw.use rfl (hN.1 (.fieldLinkNest RX8 115 "RecordBench$Field" "name" "Ljava/lang/String;" "RecordBench") (by decide +kernel))⟩) (fun _ h9 => h9) dX8_field_68 ?_
            obtain ⟨a_19, ha_20, hf⟩ := ono_some hf
            refine o_at ha_20 ?_
            obtain ⟨hk_21, hf⟩ := gd_some hf
            obtain ⟨r_24, st_22, hc_23, hf⟩ := bnd_some hf
            refine q_ci hp hA (va_runV (As := []) (rest := []) ⟨hx, hb, hml, hown, hts⟩ (c_J0_length_8abf5 l dC dI ka ad ct a_19 _ _ _ hc_23 _) (cwV 0 hts gq_X8_field_J0_length_8abf5_119 rfl rfl rfl (by decide +kernel) ⟨Nat.le_of_ble_eq_true rfl, Nat.le_of_ble_eq_true rfl⟩) ⟨PrC.blind _, q_recv (ci := 0) hK hp hC hk_21 (by decide) rfl (fun _ => rfl), q_pre hp hK hN hZ hC hR hL hA⟩ rfl rfl hl.1 rfl (lv_room (Nat.le_of_ble_eq_true rfl)) dX8_field_71 ⟨Nat.le_of_ble_eq_true rfl, Nat.le_of_ble_eq_true rfl⟩) (fun H locs hp => ?_)
            have hk_1 : qk st_22 h0 = 11 := by rw [(mo_J0_length_8abf5 a_19 _ _ _ hc_23).2.2.1]; exact hk_1
            have hk_18 : qk st_22 a_16 = 3 := by rw [(mo_J0_length_8abf5 a_19 _ _ _ hc_23).2.2.1]; exact hk_18
            have hk_21 : qk st_22 a_19 = 1 := by rw [(mo_J0_length_8abf5 a_19 _ _ _ hc_23).2.2.1]; exact hk_21
            obtain ⟨e1, e2⟩ := pr_some hf
            exact W.iret (v := r_24) hx hb hr (fun t ht hW => ⟨⟨r_24, (), rfl, e1, Cp.end e2 hp ht⟩, hp.2.1.F ht⟩) hp.2.1.2.2 dX8_field_74
          · have hf := pif_f c_63 hf
            refine lv_tableOut (tgt := 75) hx hb dX8_field_16 (sw_out4 c_60 c_61 c_62 c_63) (by decide) ?_
            refine lv_iconst (v := (-1)) hx hb dX8_field_75 (by decide) ?_
            obtain ⟨e1, e2⟩ := pr_some hf
            exact W.iret (v := (-1)) hx hb hr (fun t ht hW => ⟨⟨(-1), (), rfl, e1, Cp.end e2 hp ht⟩, hp.2.1.F ht⟩) hp.2.1.2.2 dX8_field_76
  · have hf := pif_t c_5 hf
    refine lv_iconst (v := (-1)) hx hb dX8_field_13 (by decide) ?_
    obtain ⟨e1, e2⟩ := pr_some hf
    exact W.iret (v := (-1)) hx hb hr (fun t ht hW => ⟨⟨(-1), (), rfl, e1, Cp.end e2 hp ht⟩, hp.2.1.F ht⟩) hp.2.1.2.2 dX8_field_14
noncomputable def fX8_plain (h0 : Nat) (p0 : Int32) (p1 : Int32) (st : CS) : Option (Int64 × CS) := gd (qk st h0 = 11) (bnd (fX8_fieldOf h0 p0 p1 st) (fun r_4 st_2 => pif (r_4 = none) (some ((0 : Int64), st_2)) (ono r_4 (fun a_6 => gd (qk st_2 a_6 = 3) (bnd (fX0_plainNumber a_6 st_2) (fun r_11 st_9 => some (r_11, st_9)))))))
set_option maxHeartbeats 1000000 in
theorem mo_X8_plain (h0 : Nat) (p0 : Int32) (p1 : Int32) (st : CS) (r : Int64) (st' : CS) (hf : fX8_plain h0 p0 p1 st = some (r, st')) : Ke st st' := by
  unfold fX8_plain at hf
  have hm : Ke st st := Ke.rf
  obtain ⟨hk_1, hf⟩ := gd_some hf
  obtain ⟨r_4, st_2, hc_3, hf⟩ := bnd_some hf
  have hm := hm.tr (mo_X8_fieldOf h0 p0 p1 _ _ _ hc_3)
  rcases pif_or hf with ⟨c_5, hf⟩ | ⟨c_5, hf⟩
  · obtain ⟨e1, e2⟩ := pr_some hf
    exact e2 ▸ hm
  · obtain ⟨a_6, ha_7, hf⟩ := ono_some hf
    obtain ⟨hk_8, hf⟩ := gd_some hf
    obtain ⟨r_11, st_9, hc_10, hf⟩ := bnd_some hf
    have hm := hm.tr (mo_X0_plainNumber a_6 _ _ _ hc_10)
    obtain ⟨e1, e2⟩ := pr_some hf
    exact e2 ▸ hm
def wq_X8_plain : List Cond := .code yX8_plain cX8_plain 4 (some .long) :: (([.methodLink RX8 100 yX8_fieldOf, .instanceMethod yX8_fieldOf, .selects RX8 yX8_fieldOf yX8_fieldOf, .initialized RX8, .methodLink RX8 124 yX0_plainNumber, .instanceMethod yX0_plainNumber, .selects RX0 yX0_plainNumber yX0_plainNumber, .initialized RX0, .code yX8_fieldOf cX8_fieldOf 4 (some (.object "RecordBench$Field")), .fieldLink RX8 24 "RecordBench" "makes" "[LRecordBench$Make;", .methodLink RX8 136 yX8_makeOf, .static yX8_makeOf, .methodLink RX8 225 yX1_fieldAt, .instanceMethod yX1_fieldAt, .selects RX1 yX1_fieldAt yX1_fieldAt, .initialized RX1, .code yX8_makeOf cX8_makeOf 2 (some (.object "RecordBench$Make")), .code yX1_fieldAt cX1_fieldAt 2 (some (.object "RecordBench$Field")), .fieldLink RX1 11 "RecordBench$Make" "fields" "[LRecordBench$Field;", .code yX0_plainNumber cX0_plainNumber 1 (some .long), .fieldLink RX0 15 "RecordBench$Field" "kind" "I", .fieldLink RX0 33 "RecordBench$Field" "value" "J", .fieldLink RX0 30 "RecordBench$Field" "text" "Ljava/lang/String;", .methodLink RX0 45 yJ0_length_8abf5, .instanceMethod yJ0_length_8abf5, .selects RJ0 yJ0_length_8abf5 yJ0_length_8abf5, .initialized RJ0, .code yJ0_length_8abf5 cJ0_length_8abf5 1 (some .int), .fieldLink RJ0 9 "java/lang/String" "value" "[B", .methodLink RJ0 335 yJ0_coder_7d493, .instanceMethod yJ0_coder_7d493, .selects RJ0 yJ0_coder_7d493 yJ0_coder_7d493, .code yJ0_coder_7d493 cJ0_coder_7d493 1 (some .byte), .fieldLink RJ0 38 "java/lang/String" "COMPACT_STRINGS" "Z", .fieldLink RJ0 15 "java/lang/String" "coder" "B"] : List Cond) ++ wsX80 ++ wsX10 ++ wsX00 ++ wsJ00)
theorem gs_wq_X8_plain_wsX80 : GoodIn wq_X8_plain wsX80 := fun w h => ⟨List.mem_cons_of_mem _ (List.mem_append_left _ (List.mem_append_left _ (List.mem_append_left _ (List.mem_append_right _ h)))), (gt_wsX80 w h).2⟩
theorem gs_wq_X8_plain_wsX10 : GoodIn wq_X8_plain wsX10 := fun w h => ⟨List.mem_cons_of_mem _ (List.mem_append_left _ (List.mem_append_left _ (List.mem_append_right _ h))), (gt_wsX10 w h).2⟩
set_option maxRecDepth 20000 in
theorem gq_X8_plain_X8_fieldOf_100 : GoodIn wq_X8_plain (wsV RX8 100 RX8 yX8_fieldOf wq_X8_fieldOf) := goodIn_app (goodIn_r _ [1, 2, 3, 4] rfl rfl) (goodIn_ca (goodIn_ca (goodIn_r _ [9, 10, 11, 12, 4, 13, 14, 15, 16, 17, 18, 19] rfl rfl) gs_wq_X8_plain_wsX80) gs_wq_X8_plain_wsX10)
theorem gs_wq_X8_plain_wsX00 : GoodIn wq_X8_plain wsX00 := fun w h => ⟨List.mem_cons_of_mem _ (List.mem_append_left _ (List.mem_append_right _ h)), (gt_wsX00 w h).2⟩
theorem gs_wq_X8_plain_wsJ00 : GoodIn wq_X8_plain wsJ00 := fun w h => ⟨List.mem_cons_of_mem _ (List.mem_append_right _ h), (gt_wsJ00 w h).2⟩
set_option maxRecDepth 20000 in
theorem gq_X8_plain_X0_plainNumber_124 : GoodIn wq_X8_plain (wsV RX8 124 RX0 yX0_plainNumber wq_X0_plainNumber) := goodIn_app (goodIn_r _ [5, 6, 7, 8] rfl rfl) (goodIn_ca (goodIn_ca (goodIn_r _ [20, 21, 22, 23, 24, 25, 26, 27, 28, 29, 30, 31, 32, 33, 34, 35] rfl rfl) gs_wq_X8_plain_wsX00) gs_wq_X8_plain_wsJ00)
set_option maxHeartbeats 4000000 in
set_option maxRecDepth 100000 in
theorem c_X8_plain (l : Launch) (dC : Nat → ClassId) (dI : Nat → Nat → Nat) (ka ad : Nat → Nat) (ct : Nat → ClassId) (h0 : Nat) (p0 : Int32) (p1 : Int32) (st st' : CS) (r : Int64) (hf : fX8_plain h0 p0 p1 st = some (r, st')) (sz : Nat) : Met l yX8_plain wq_X8_plain ({ frames := 3, cells := 0, slots := 0, locals := 72 }) (va_Pc [.ref (ad h0), .int p0, .int p1] (PrC (dC, dI) ct ka ad st sz)) (va_Ql (fun r' (_ : Unit) => r' = r) (fun _ => CB (dC, dI) ct ka ad st' (aC ad st sz)) (aC ad st sz)) 0 0 (aC ad st sz) := by
  refine Met.ofW (cc := cX8_plain) (maxL := 4) (ret := (some .long)) (by decide) rfl ?_
  intro p e s m args below meth c s₁ B hml hv
  obtain ⟨rfl, hsz, hw0, hK, hN, hZ, hC, hR, hL, hw1, hw2⟩ := hv
  have hx := B.exec
  have hb := B.bytes
  have hr := B.returns
  have hts := atoms_spec (ws := wq_X8_plain) B.pre
  have hown : s.vm.findClass RX8 = some m.cls := findClass_of_methodNamed B.named
  subst hsz
  have hp : Cp (dC, dI) ka ad ct (aC ad st s.heap.size) s.heap st s.heap [] := ⟨fun i a b => ⟨hw0 i a b, Or.inl ⟨i, a, b, rfl⟩⟩, va_S.rf, hw1, hw2⟩
  generalize hAe : aC ad st s.heap.size = A at hp hZ hC ⊢
  have hA : ∀ q : Nat, s.heap.size ≤ q → A q := fun q h => by rw [← hAe]; exact Or.inr h
  have hl := lv_entry ([.ref (ad h0), .int p0, .int p1]) (n := 4) (Nat.le_of_ble_eq_true rfl)
  rw [lg_entry_eq]
  generalize (lg_sl ([.ref (ad h0), .int p0, .int p1]) ++ List.replicate (4 - (lg_sl ([.ref (ad h0), .int p0, .int p1])).length) Slot.unset).toArray = ls at hl ⊢
  have hl : lv_has ls 4 [(0, .ref (ad h0)), (1, .int p0), (2, .int p1)] := hl
  unfold fX8_plain at hf
  refine lv_aload_n hx hb dX8_plain_0 rfl (lv_at hl 0 rfl) ?_
  refine lv_iload_n hx hb dX8_plain_1 rfl (lv_at hl 1 rfl) ?_
  refine lv_iload_n hx hb dX8_plain_2 rfl (lv_at hl 2 rfl) ?_
  obtain ⟨hk_1, hf⟩ := gd_some hf
  obtain ⟨r_4, st_2, hc_3, hf⟩ := bnd_some hf
  refine q_cq hp hA (va_runV (As := [.int p0, .int p1]) (rest := []) ⟨hx, hb, hml, hown, hts⟩ (c_X8_fieldOf l dC dI ka ad ct h0 p0 p1 _ _ _ hc_3 _) (cwV 2 hts gq_X8_plain_X8_fieldOf_100 rfl rfl rfl (by decide +kernel) ⟨Nat.le_of_ble_eq_true rfl, Nat.le_of_ble_eq_true rfl⟩) ⟨PrC.blind _, q_rv10 hK hp hC hk_1, q_pre hp hK hN hZ hC hR hL hA⟩ rfl rfl hl.1 rfl (lv_room (Nat.le_of_ble_eq_true rfl)) dX8_plain_3 ⟨Nat.le_of_ble_eq_true rfl, Nat.le_of_ble_eq_true rfl⟩) (fun H locs hp => ?_)
  have hk_1 : qk st_2 h0 = 11 := by rw [(mo_X8_fieldOf h0 p0 p1 _ _ _ hc_3).2.2.1]; exact hk_1
  refine o_astore_n (i := 3) (lv' := [(3, va_rf (Option.map ad r_4)), (0, .ref (ad h0)), (1, .int p0), (2, .int p1)]) hx hb dX8_plain_6 rfl hl (by decide) rfl (fun ls hl => ?_)
  refine o_aload_n hx hb dX8_plain_7 rfl (lv_at hl 0 rfl) ?_
  refine o_ifnonnull (tgt := 15) hx hb dX8_plain_8 (by decide) (fun c_5 => ?_) (fun c_5 => ?_)
  · have hf := pif_f c_5 hf
    refine o_aload_n hx hb dX8_plain_15 rfl (lv_at hl 0 rfl) ?_
    obtain ⟨a_6, ha_7, hf⟩ := ono_some hf
    refine o_at ha_7 ?_
    obtain ⟨hk_8, hf⟩ := gd_some hf
    obtain ⟨r_11, st_9, hc_10, hf⟩ := bnd_some hf
    refine q_cl hp hA (va_runV (As := []) (rest := []) ⟨hx, hb, hml, hown, hts⟩ (c_X0_plainNumber l dC dI ka ad ct a_6 _ _ _ hc_10 _) (cwV 0 hts gq_X8_plain_X0_plainNumber_124 rfl rfl rfl (by decide +kernel) ⟨Nat.le_of_ble_eq_true rfl, Nat.le_of_ble_eq_true rfl⟩) ⟨PrC.blind _, q_rv2 hK hp hC hk_8, q_pre hp hK hN hZ hC hR hL hA⟩ rfl rfl hl.1 rfl (lv_room (Nat.le_of_ble_eq_true rfl)) dX8_plain_16 ⟨Nat.le_of_ble_eq_true rfl, Nat.le_of_ble_eq_true rfl⟩) (fun H locs hp => ?_)
    have hk_1 : qk st_9 h0 = 11 := by rw [(mo_X0_plainNumber a_6 _ _ _ hc_10).2.2.1]; exact hk_1
    have hk_8 : qk st_9 a_6 = 3 := by rw [(mo_X0_plainNumber a_6 _ _ _ hc_10).2.2.1]; exact hk_8
    obtain ⟨e1, e2⟩ := pr_some hf
    exact W.lret (v := r_11) hx hb hr (fun t ht hW => ⟨⟨r_11, (), rfl, e1, Cp.end e2 hp ht⟩, hp.2.1.F ht⟩) hp.2.1.2.2 dX8_plain_19
  · have hf := pif_t c_5 hf
    refine lv_lconst (v := 0) hx hb dX8_plain_11 (by decide) ?_
    refine lv_goto (tgt := 19) hx hb dX8_plain_12 (by decide) ?_
    obtain ⟨e1, e2⟩ := pr_some hf
    exact W.lret (v := 0) hx hb hr (fun t ht hW => ⟨⟨0, (), rfl, e1, Cp.end e2 hp ht⟩, hp.2.1.F ht⟩) hp.2.1.2.2 dX8_plain_19
noncomputable def fX8_clear (h0 : Nat) (p0 : Int32) (st : CS) : Option (Int32 × CS) := gd (qk st h0 = 11) (bnd (fX8_recordOf h0 p0 st) (fun r_4 st_2 => pif (r_4 = none) (some (((-1) : Int32), st_2)) (ono r_4 (fun a_6 => gd (qk st_2 a_6 = 8) (bnd (fX5_size a_6 st_2) (fun r_11 st_9 => bnd (fX5_cut a_6 0 st_9) (fun r_14 st_12 => some (r_11, st_12))))))))
set_option maxHeartbeats 1000000 in
theorem mo_X8_clear (h0 : Nat) (p0 : Int32) (st : CS) (r : Int32) (st' : CS) (hf : fX8_clear h0 p0 st = some (r, st')) : Ke st st' := by
  unfold fX8_clear at hf
  have hm : Ke st st := Ke.rf
  obtain ⟨hk_1, hf⟩ := gd_some hf
  obtain ⟨r_4, st_2, hc_3, hf⟩ := bnd_some hf
  have hm := hm.tr (mo_X8_recordOf h0 p0 _ _ _ hc_3)
  rcases pif_or hf with ⟨c_5, hf⟩ | ⟨c_5, hf⟩
  · obtain ⟨e1, e2⟩ := pr_some hf
    exact e2 ▸ hm
  · obtain ⟨a_6, ha_7, hf⟩ := ono_some hf
    obtain ⟨hk_8, hf⟩ := gd_some hf
    obtain ⟨r_11, st_9, hc_10, hf⟩ := bnd_some hf
    have hm := hm.tr (mo_X5_size a_6 _ _ _ hc_10)
    obtain ⟨r_14, st_12, hc_13, hf⟩ := bnd_some hf
    have hm := hm.tr (mo_X5_cut a_6 0 _ _ _ hc_13)
    obtain ⟨e1, e2⟩ := pr_some hf
    exact e2 ▸ hm
def wq_X8_clear : List Cond := .code yX8_clear cX8_clear 4 (some .int) :: (([.methodLink RX8 128 yX8_recordOf, .instanceMethod yX8_recordOf, .selects RX8 yX8_recordOf yX8_recordOf, .initialized RX8, .methodLink RX8 76 yX5_size, .instanceMethod yX5_size, .selects RX5 yX5_size yX5_size, .initialized RX5, .methodLink RX8 83 yX5_cut, .instanceMethod yX5_cut, .selects RX5 yX5_cut yX5_cut, .code yX8_recordOf cX8_recordOf 2 (some (.object "RecordBench$Row")), .fieldLink RX8 18 "RecordBench" "records" "[LRecordBench$Row;", .code yX5_size cX5_size 1 (some .int), .fieldLink RX5 21 "RecordBench$Row" "size" "I", .code yX5_cut cX5_cut 2 (some .boolean)] : List Cond) ++ wsX80 ++ wsX50)
theorem gs_wq_X8_clear_wsX80 : GoodIn wq_X8_clear wsX80 := fun w h => ⟨List.mem_cons_of_mem _ (List.mem_append_left _ (List.mem_append_right _ h)), (gt_wsX80 w h).2⟩
set_option maxRecDepth 20000 in
theorem gq_X8_clear_X8_recordOf_128 : GoodIn wq_X8_clear (wsV RX8 128 RX8 yX8_recordOf wq_X8_recordOf) := goodIn_app (goodIn_r _ [1, 2, 3, 4] rfl rfl) (goodIn_ca (goodIn_r _ [12, 13] rfl rfl) gs_wq_X8_clear_wsX80)
theorem gs_wq_X8_clear_wsX50 : GoodIn wq_X8_clear wsX50 := fun w h => ⟨List.mem_cons_of_mem _ (List.mem_append_right _ h), (gt_wsX50 w h).2⟩
set_option maxRecDepth 20000 in
theorem gq_X8_clear_X5_size_76 : GoodIn wq_X8_clear (wsV RX8 76 RX5 yX5_size wq_X5_size) := goodIn_app (goodIn_r _ [5, 6, 7, 8] rfl rfl) (goodIn_ca (goodIn_r _ [14, 15] rfl rfl) gs_wq_X8_clear_wsX50)
set_option maxRecDepth 20000 in
theorem gq_X8_clear_X5_cut_83 : GoodIn wq_X8_clear (wsV RX8 83 RX5 yX5_cut wq_X5_cut) := goodIn_app (goodIn_r _ [9, 10, 11, 8] rfl rfl) (goodIn_ca (goodIn_r _ [16, 15] rfl rfl) gs_wq_X8_clear_wsX50)
set_option maxHeartbeats 4000000 in
set_option maxRecDepth 100000 in
theorem c_X8_clear (l : Launch) (dC : Nat → ClassId) (dI : Nat → Nat → Nat) (ka ad : Nat → Nat) (ct : Nat → ClassId) (h0 : Nat) (p0 : Int32) (st st' : CS) (r : Int32) (hf : fX8_clear h0 p0 st = some (r, st')) (sz : Nat) : Met l yX8_clear wq_X8_clear ({ frames := 1, cells := 0, slots := 0, locals := 25 }) (va_Pc [.ref (ad h0), .int p0] (PrC (dC, dI) ct ka ad st sz)) (va_Qi (fun r' (_ : Unit) => r' = r) (fun _ => CB (dC, dI) ct ka ad st' (aC ad st sz)) (aC ad st sz)) 0 0 (aC ad st sz) := by
  refine Met.ofW (cc := cX8_clear) (maxL := 4) (ret := (some .int)) (by decide) rfl ?_
  intro p e s m args below meth c s₁ B hml hv
  obtain ⟨rfl, hsz, hw0, hK, hN, hZ, hC, hR, hL, hw1, hw2⟩ := hv
  have hx := B.exec
  have hb := B.bytes
  have hr := B.returns
  have hts := atoms_spec (ws := wq_X8_clear) B.pre
  have hown : s.vm.findClass RX8 = some m.cls := findClass_of_methodNamed B.named
  subst hsz
  have hp : Cp (dC, dI) ka ad ct (aC ad st s.heap.size) s.heap st s.heap [] := ⟨fun i a b => ⟨hw0 i a b, Or.inl ⟨i, a, b, rfl⟩⟩, va_S.rf, hw1, hw2⟩
  generalize hAe : aC ad st s.heap.size = A at hp hZ hC ⊢
  have hA : ∀ q : Nat, s.heap.size ≤ q → A q := fun q h => by rw [← hAe]; exact Or.inr h
  have hl := lv_entry ([.ref (ad h0), .int p0]) (n := 4) (Nat.le_of_ble_eq_true rfl)
  rw [lg_entry_eq]
  generalize (lg_sl ([.ref (ad h0), .int p0]) ++ List.replicate (4 - (lg_sl ([.ref (ad h0), .int p0])).length) Slot.unset).toArray = ls at hl ⊢
  have hl : lv_has ls 4 [(0, .ref (ad h0)), (1, .int p0)] := hl
  unfold fX8_clear at hf
  refine lv_aload_n hx hb dX8_clear_0 rfl (lv_at hl 0 rfl) ?_
  refine lv_iload_n hx hb dX8_clear_1 rfl (lv_at hl 1 rfl) ?_
  obtain ⟨hk_1, hf⟩ := gd_some hf
  obtain ⟨r_4, st_2, hc_3, hf⟩ := bnd_some hf
  refine q_cq hp hA (va_runV (As := [.int p0]) (rest := []) ⟨hx, hb, hml, hown, hts⟩ (c_X8_recordOf l dC dI ka ad ct h0 p0 _ _ _ hc_3 _) (cwV 1 hts gq_X8_clear_X8_recordOf_128 rfl rfl rfl (by decide +kernel) ⟨Nat.le_of_ble_eq_true rfl, Nat.le_of_ble_eq_true rfl⟩) ⟨PrC.blind _, q_rv10 hK hp hC hk_1, q_pre hp hK hN hZ hC hR hL hA⟩ rfl rfl hl.1 rfl (lv_room (Nat.le_of_ble_eq_true rfl)) dX8_clear_2 ⟨Nat.le_of_ble_eq_true rfl, Nat.le_of_ble_eq_true rfl⟩) (fun H locs hp => ?_)
  have hk_1 : qk st_2 h0 = 11 := by rw [(mo_X8_recordOf h0 p0 _ _ _ hc_3).2.2.1]; exact hk_1
  refine o_astore_n (i := 2) (lv' := [(2, va_rf (Option.map ad r_4)), (0, .ref (ad h0)), (1, .int p0)]) hx hb dX8_clear_5 rfl hl (by decide) rfl (fun ls hl => ?_)
  refine o_aload_n hx hb dX8_clear_6 rfl (lv_at hl 0 rfl) ?_
  refine o_ifnonnull (tgt := 12) hx hb dX8_clear_7 (by decide) (fun c_5 => ?_) (fun c_5 => ?_)
  · have hf := pif_f c_5 hf
    refine o_aload_n hx hb dX8_clear_12 rfl (lv_at hl 0 rfl) ?_
    obtain ⟨a_6, ha_7, hf⟩ := ono_some hf
    refine o_at ha_7 ?_
    obtain ⟨hk_8, hf⟩ := gd_some hf
    obtain ⟨r_11, st_9, hc_10, hf⟩ := bnd_some hf
    refine q_ci hp hA (va_runV (As := []) (rest := []) ⟨hx, hb, hml, hown, hts⟩ (c_X5_size l dC dI ka ad ct a_6 _ _ _ hc_10 _) (cwV 0 hts gq_X8_clear_X5_size_76 rfl rfl rfl (by decide +kernel) ⟨Nat.le_of_ble_eq_true rfl, Nat.le_of_ble_eq_true rfl⟩) ⟨PrC.blind _, q_rv7 hK hp hC hk_8, q_pre hp hK hN hZ hC hR hL hA⟩ rfl rfl hl.1 rfl (lv_room (Nat.le_of_ble_eq_true rfl)) dX8_clear_13 ⟨Nat.le_of_ble_eq_true rfl, Nat.le_of_ble_eq_true rfl⟩) (fun H locs hp => ?_)
    have hk_1 : qk st_9 h0 = 11 := by rw [(mo_X5_size a_6 _ _ _ hc_10).2.2.1]; exact hk_1
    have hk_8 : qk st_9 a_6 = 8 := by rw [(mo_X5_size a_6 _ _ _ hc_10).2.2.1]; exact hk_8
    refine lv_istore_n (i := 3) (lv' := [(3, .int r_11), (2, va_rf (Option.map ad r_4)), (0, .ref (ad h0)), (1, .int p0)]) hx hb dX8_clear_16 rfl hl (by decide) (by simp [rf_cat, vc_i, vc_l, vc_r, vc_n]) (fun ls hl => ?_)
    refine o_aload_n hx hb dX8_clear_17 rfl (lv_at hl 1 rfl) ?_
    refine lv_iconst (v := 0) hx hb dX8_clear_18 (by decide) ?_
    refine o_at1 ha_7 ?_
    obtain ⟨r_14, st_12, hc_13, hf⟩ := bnd_some hf
    refine q_ci hp hA (va_runV (As := [.int 0]) (rest := []) ⟨hx, hb, hml, hown, hts⟩ (c_X5_cut l dC dI ka ad ct a_6 0 _ _ _ hc_13 _) (cwV 1 hts gq_X8_clear_X5_cut_83 rfl rfl rfl (by decide +kernel) ⟨Nat.le_of_ble_eq_true rfl, Nat.le_of_ble_eq_true rfl⟩) ⟨PrC.blind _, q_rv7 hK hp hC hk_8, q_pre hp hK hN hZ hC hR hL hA⟩ rfl rfl hl.1 rfl (lv_room (Nat.le_of_ble_eq_true rfl)) dX8_clear_19 ⟨Nat.le_of_ble_eq_true rfl, Nat.le_of_ble_eq_true rfl⟩) (fun H locs hp => ?_)
    have hk_1 : qk st_12 h0 = 11 := by rw [(mo_X5_cut a_6 0 _ _ _ hc_13).2.2.1]; exact hk_1
    have hk_8 : qk st_12 a_6 = 8 := by rw [(mo_X5_cut a_6 0 _ _ _ hc_13).2.2.1]; exact hk_8
    refine lv_pop hx hb dX8_clear_22 rfl ?_
    refine lv_iload_n hx hb dX8_clear_23 rfl (lv_at hl 0 rfl) ?_
    obtain ⟨e1, e2⟩ := pr_some hf
    exact W.iret (v := r_11) hx hb hr (fun t ht hW => ⟨⟨r_11, (), rfl, e1, Cp.end e2 hp ht⟩, hp.2.1.F ht⟩) hp.2.1.2.2 dX8_clear_24
  · have hf := pif_t c_5 hf
    refine lv_iconst (v := (-1)) hx hb dX8_clear_10 (by decide) ?_
    obtain ⟨e1, e2⟩ := pr_some hf
    exact W.iret (v := (-1)) hx hb hr (fun t ht hW => ⟨⟨(-1), (), rfl, e1, Cp.end e2 hp ht⟩, hp.2.1.F ht⟩) hp.2.1.2.2 dX8_clear_11
noncomputable def fX8_load (h0 : Nat) (p0 : Int32) (st : CS) : Option (Int32 × CS) := gd (qk st h0 = 11) (bnd (fX8_recordOf h0 p0 st) (fun r_4 st_2 => pif (r_4 = none) (some (((-1) : Int32), st_2)) (ono (qP st_2 h0 0) (fun a_6 => gd (qk st_2 a_6 = 8) (bnd (fX5_size a_6 st_2) (fun r_11 st_9 => pif (r_11 ≤ 120) (ono (qP st_9 h0 0) (fun a_13 => gd (qk st_9 a_13 = 8) (bnd (fX5_size a_13 st_9) (fun r_18 st_16 => ono r_4 (fun a_19 => gd (qk st_16 a_19 = 8) (bnv (fX5_become a_19 (qP st_9 h0 0) 0 r_18 st_16) (fun st_22 => ono (qP st_22 h0 0) (fun a_25 => gd (qk st_22 a_25 = 8) (bnd (fX5_cut a_25 0 st_22) (fun r_30 st_28 => bnd (fX5_size a_19 st_28) (fun r_33 st_31 => some (r_33, st_31)))))))))))) (some (((-1) : Int32), st_9))))))))
set_option maxHeartbeats 1000000 in
theorem mo_X8_load (h0 : Nat) (p0 : Int32) (st : CS) (r : Int32) (st' : CS) (hf : fX8_load h0 p0 st = some (r, st')) : Ke st st' := by
  unfold fX8_load at hf
  have hm : Ke st st := Ke.rf
  obtain ⟨hk_1, hf⟩ := gd_some hf
  obtain ⟨r_4, st_2, hc_3, hf⟩ := bnd_some hf
  have hm := hm.tr (mo_X8_recordOf h0 p0 _ _ _ hc_3)
  rcases pif_or hf with ⟨c_5, hf⟩ | ⟨c_5, hf⟩
  · obtain ⟨e1, e2⟩ := pr_some hf
    exact e2 ▸ hm
  · obtain ⟨a_6, ha_7, hf⟩ := ono_some hf
    obtain ⟨hk_8, hf⟩ := gd_some hf
    obtain ⟨r_11, st_9, hc_10, hf⟩ := bnd_some hf
    have hm := hm.tr (mo_X5_size a_6 _ _ _ hc_10)
    rcases pif_or hf with ⟨c_12, hf⟩ | ⟨c_12, hf⟩
    · obtain ⟨a_13, ha_14, hf⟩ := ono_some hf
      obtain ⟨hk_15, hf⟩ := gd_some hf
      obtain ⟨r_18, st_16, hc_17, hf⟩ := bnd_some hf
      have hm := hm.tr (mo_X5_size a_13 _ _ _ hc_17)
      obtain ⟨a_19, ha_20, hf⟩ := ono_some hf
      obtain ⟨hk_21, hf⟩ := gd_some hf
      obtain ⟨st_22, hc_23, hf⟩ := bnv_some hf
      have hm := hm.tr (mo_X5_become a_19 (qP st_9 h0 0) 0 r_18 _ _ hc_23)
      obtain ⟨a_25, ha_26, hf⟩ := ono_some hf
      obtain ⟨hk_27, hf⟩ := gd_some hf
      obtain ⟨r_30, st_28, hc_29, hf⟩ := bnd_some hf
      have hm := hm.tr (mo_X5_cut a_25 0 _ _ _ hc_29)
      obtain ⟨r_33, st_31, hc_32, hf⟩ := bnd_some hf
      have hm := hm.tr (mo_X5_size a_19 _ _ _ hc_32)
      obtain ⟨e1, e2⟩ := pr_some hf
      exact e2 ▸ hm
    · obtain ⟨e1, e2⟩ := pr_some hf
      exact e2 ▸ hm
def wq_X8_load : List Cond := .code yX8_load cX8_load 3 (some .int) :: (([.fieldLink RX8 14 "RecordBench" "tape" "LRecordBench$Row;", .methodLink RX8 128 yX8_recordOf, .instanceMethod yX8_recordOf, .selects RX8 yX8_recordOf yX8_recordOf, .initialized RX8, .methodLink RX8 76 yX5_size, .instanceMethod yX5_size, .selects RX5 yX5_size yX5_size, .initialized RX5, .methodLink RX8 132 yX5_become, .instanceMethod yX5_become, .selects RX5 yX5_become yX5_become, .methodLink RX8 83 yX5_cut, .instanceMethod yX5_cut, .selects RX5 yX5_cut yX5_cut, .code yX8_recordOf cX8_recordOf 2 (some (.object "RecordBench$Row")), .fieldLink RX8 18 "RecordBench" "records" "[LRecordBench$Row;", .code yX5_size cX5_size 1 (some .int), .fieldLink RX5 21 "RecordBench$Row" "size" "I", .code yX5_become cX5_become 6 none, .fieldLink RX5 15 "RecordBench$Row" "bytes" "[I", .methodLink RX5 48 yX5_byteAt, .instanceMethod yX5_byteAt, .selects RX5 yX5_byteAt yX5_byteAt, .code yX5_byteAt cX5_byteAt 2 (some .int), .code yX5_cut cX5_cut 2 (some .boolean)] : List Cond) ++ wsX80 ++ wsX50)
theorem gs_wq_X8_load_wsX80 : GoodIn wq_X8_load wsX80 := fun w h => ⟨List.mem_cons_of_mem _ (List.mem_append_left _ (List.mem_append_right _ h)), (gt_wsX80 w h).2⟩
set_option maxRecDepth 20000 in
theorem gq_X8_load_X8_recordOf_128 : GoodIn wq_X8_load (wsV RX8 128 RX8 yX8_recordOf wq_X8_recordOf) := goodIn_app (goodIn_r _ [2, 3, 4, 5] rfl rfl) (goodIn_ca (goodIn_r _ [16, 17] rfl rfl) gs_wq_X8_load_wsX80)
theorem gs_wq_X8_load_wsX50 : GoodIn wq_X8_load wsX50 := fun w h => ⟨List.mem_cons_of_mem _ (List.mem_append_right _ h), (gt_wsX50 w h).2⟩
set_option maxRecDepth 20000 in
theorem gq_X8_load_X5_size_76 : GoodIn wq_X8_load (wsV RX8 76 RX5 yX5_size wq_X5_size) := goodIn_app (goodIn_r _ [6, 7, 8, 9] rfl rfl) (goodIn_ca (goodIn_r _ [18, 19] rfl rfl) gs_wq_X8_load_wsX50)
set_option maxRecDepth 20000 in
theorem gq_X8_load_X5_become_132 : GoodIn wq_X8_load (wsV RX8 132 RX5 yX5_become wq_X5_become) := goodIn_app (goodIn_r _ [10, 11, 12, 9] rfl rfl) (goodIn_ca (goodIn_r _ [20, 21, 19, 22, 23, 24, 9, 25] rfl rfl) gs_wq_X8_load_wsX50)
set_option maxRecDepth 20000 in
theorem gq_X8_load_X5_cut_83 : GoodIn wq_X8_load (wsV RX8 83 RX5 yX5_cut wq_X5_cut) := goodIn_app (goodIn_r _ [13, 14, 15, 9] rfl rfl) (goodIn_ca (goodIn_r _ [26, 19] rfl rfl) gs_wq_X8_load_wsX50)
set_option maxHeartbeats 4000000 in
set_option maxRecDepth 100000 in
theorem c_X8_load (l : Launch) (dC : Nat → ClassId) (dI : Nat → Nat → Nat) (ka ad : Nat → Nat) (ct : Nat → ClassId) (h0 : Nat) (p0 : Int32) (st st' : CS) (r : Int32) (hf : fX8_load h0 p0 st = some (r, st')) (sz : Nat) : Met l yX8_load wq_X8_load ({ frames := 2, cells := 0, slots := 0, locals := 54 }) (va_Pc [.ref (ad h0), .int p0] (PrC (dC, dI) ct ka ad st sz)) (va_Qi (fun r' (_ : Unit) => r' = r) (fun _ => CB (dC, dI) ct ka ad st' (aC ad st sz)) (aC ad st sz)) 0 0 (aC ad st sz) := by
  refine Met.ofW (cc := cX8_load) (maxL := 3) (ret := (some .int)) (by decide) rfl ?_
  intro p e s m args below meth c s₁ B hml hv
  obtain ⟨rfl, hsz, hw0, hK, hN, hZ, hC, hR, hL, hw1, hw2⟩ := hv
  have hx := B.exec
  have hb := B.bytes
  have hr := B.returns
  have hts := atoms_spec (ws := wq_X8_load) B.pre
  have hown : s.vm.findClass RX8 = some m.cls := findClass_of_methodNamed B.named
  have iRX8 : ∀ w ∈ u_ws RX8 TX8 12, w ∈ wq_X8_load := fun w h => List.mem_cons_of_mem _ (List.mem_append_left _ (List.mem_append_right _ h))
  subst hsz
  have hp : Cp (dC, dI) ka ad ct (aC ad st s.heap.size) s.heap st s.heap [] := ⟨fun i a b => ⟨hw0 i a b, Or.inl ⟨i, a, b, rfl⟩⟩, va_S.rf, hw1, hw2⟩
  generalize hAe : aC ad st s.heap.size = A at hp hZ hC ⊢
  have hA : ∀ q : Nat, s.heap.size ≤ q → A q := fun q h => by rw [← hAe]; exact Or.inr h
  have hl := lv_entry ([.ref (ad h0), .int p0]) (n := 3) (Nat.le_of_ble_eq_true rfl)
  rw [lg_entry_eq]
  generalize (lg_sl ([.ref (ad h0), .int p0]) ++ List.replicate (3 - (lg_sl ([.ref (ad h0), .int p0])).length) Slot.unset).toArray = ls at hl ⊢
  have hl : lv_has ls 3 [(0, .ref (ad h0)), (1, .int p0)] := hl
  unfold fX8_load at hf
  refine lv_aload_n hx hb dX8_load_0 rfl (lv_at hl 0 rfl) ?_
  refine lv_iload_n hx hb dX8_load_1 rfl (lv_at hl 1 rfl) ?_
  obtain ⟨hk_1, hf⟩ := gd_some hf
  obtain ⟨r_4, st_2, hc_3, hf⟩ := bnd_some hf
  refine q_cq hp hA (va_runV (As := [.int p0]) (rest := []) ⟨hx, hb, hml, hown, hts⟩ (c_X8_recordOf l dC dI ka ad ct h0 p0 _ _ _ hc_3 _) (cwV 1 hts gq_X8_load_X8_recordOf_128 rfl rfl rfl (by decide +kernel) ⟨Nat.le_of_ble_eq_true rfl, Nat.le_of_ble_eq_true rfl⟩) ⟨PrC.blind _, q_rv10 hK hp hC hk_1, q_pre hp hK hN hZ hC hR hL hA⟩ rfl rfl hl.1 rfl (lv_room (Nat.le_of_ble_eq_true rfl)) dX8_load_2 ⟨Nat.le_of_ble_eq_true rfl, Nat.le_of_ble_eq_true rfl⟩) (fun H locs hp => ?_)
  have hk_1 : qk st_2 h0 = 11 := by rw [(mo_X8_recordOf h0 p0 _ _ _ hc_3).2.2.1]; exact hk_1
  refine o_astore_n (i := 2) (lv' := [(2, va_rf (Option.map ad r_4)), (0, .ref (ad h0)), (1, .int p0)]) hx hb dX8_load_5 rfl hl (by decide) rfl (fun ls hl => ?_)
  refine o_aload_n hx hb dX8_load_6 rfl (lv_at hl 0 rfl) ?_
  refine o_ifnull (tgt := 22) hx hb dX8_load_7 (by decide) (fun c_5 => ?_) (fun c_5 => ?_)
  · have hf := pif_t c_5 hf
    refine lv_iconst (v := (-1)) hx hb dX8_load_22 (by decide) ?_
    obtain ⟨e1, e2⟩ := pr_some hf
    exact W.iret (v := (-1)) hx hb hr (fun t ht hW => ⟨⟨(-1), (), rfl, e1, Cp.end e2 hp ht⟩, hp.2.1.F ht⟩) hp.2.1.2.2 dX8_load_23
  · have hf := pif_f c_5 hf
    refine lv_aload_n hx hb dX8_load_10 rfl (lv_at hl 1 rfl) ?_
    refine q_gp (ci := 10) (C := RX8) (T := TX8) (N := 12) (k := 0) hx hb hts iRX8 hown hK hp hk_1 (by decide) rfl rfl (by decide) rfl (Or.inl (hts (.fieldLink RX8 14 "RecordBench" "tape" "LRecordBench$Row;") (by decide +kernel))) (fun _ h9 => h9) dX8_load_11 ?_
    obtain ⟨a_6, ha_7, hf⟩ := ono_some hf
    refine o_at ha_7 ?_
    obtain ⟨hk_8, hf⟩ := gd_some hf
    obtain ⟨r_11, st_9, hc_10, hf⟩ := bnd_some hf
    refine q_ci hp hA (va_runV (As := []) (rest := []) ⟨hx, hb, hml, hown, hts⟩ (c_X5_size l dC dI ka ad ct a_6 _ _ _ hc_10 _) (cwV 0 hts gq_X8_load_X5_size_76 rfl rfl rfl (by decide +kernel) ⟨Nat.le_of_ble_eq_true rfl, Nat.le_of_ble_eq_true rfl⟩) ⟨PrC.blind _, q_rv7 hK hp hC hk_8, q_pre hp hK hN hZ hC hR hL hA⟩ rfl rfl hl.1 rfl (lv_room (Nat.le_of_ble_eq_true rfl)) dX8_load_14 ⟨Nat.le_of_ble_eq_true rfl, Nat.le_of_ble_eq_true rfl⟩) (fun H locs hp => ?_)
    have hk_1 : qk st_9 h0 = 11 := by rw [(mo_X5_size a_6 _ _ _ hc_10).2.2.1]; exact hk_1
    have hk_8 : qk st_9 a_6 = 8 := by rw [(mo_X5_size a_6 _ _ _ hc_10).2.2.1]; exact hk_8
    refine lv_bipush (v := 120) hx hb dX8_load_17 (by decide) ?_
    refine lv_icmp_le (tgt := 24) hx hb dX8_load_19 (by decide) (fun c_12 => ?_) (fun c_12 => ?_)
    · have hf := pif_t c_12 hf
      refine o_aload_n hx hb dX8_load_24 rfl (lv_at hl 0 rfl) ?_
      refine lv_aload_n hx hb dX8_load_25 rfl (lv_at hl 1 rfl) ?_
      refine q_gp (ci := 10) (C := RX8) (T := TX8) (N := 12) (k := 0) hx hb hts iRX8 hown hK hp hk_1 (by decide) rfl rfl (by decide) rfl (Or.inl (hts (.fieldLink RX8 14 "RecordBench" "tape" "LRecordBench$Row;") (by decide +kernel))) (fun _ h9 => h9) dX8_load_26 ?_
      refine lv_iconst (v := 0) hx hb dX8_load_29 (by decide) ?_
      refine lv_aload_n hx hb dX8_load_30 rfl (lv_at hl 1 rfl) ?_
      refine q_gp (ci := 10) (C := RX8) (T := TX8) (N := 12) (k := 0) hx hb hts iRX8 hown hK hp hk_1 (by decide) rfl rfl (by decide) rfl (Or.inl (hts (.fieldLink RX8 14 "RecordBench" "tape" "LRecordBench$Row;") (by decide +kernel))) (fun _ h9 => h9) dX8_load_31 ?_
      obtain ⟨a_13, ha_14, hf⟩ := ono_some hf
      refine o_at ha_14 ?_
      obtain ⟨hk_15, hf⟩ := gd_some hf
      obtain ⟨r_18, st_16, hc_17, hf⟩ := bnd_some hf
      refine q_ci hp hA (va_runV (As := []) (rest := [.int 0, va_rf (Option.map ad (qP st_9 h0 0)), va_rf (Option.map ad r_4)]) ⟨hx, hb, hml, hown, hts⟩ (c_X5_size l dC dI ka ad ct a_13 _ _ _ hc_17 _) (cwV 0 hts gq_X8_load_X5_size_76 rfl rfl rfl (by decide +kernel) ⟨Nat.le_of_ble_eq_true rfl, Nat.le_of_ble_eq_true rfl⟩) ⟨PrC.blind _, q_rv7 hK hp hC hk_15, q_pre hp hK hN hZ hC hR hL hA⟩ rfl rfl hl.1 rfl (lv_room (by simp [rf_cat, vc_i, vc_l, vc_r, vc_n])) dX8_load_34 ⟨Nat.le_of_ble_eq_true rfl, Nat.le_of_ble_eq_true rfl⟩) (fun H locs hp => ?_)
      have hk_1 : qk st_16 h0 = 11 := by rw [(mo_X5_size a_13 _ _ _ hc_17).2.2.1]; exact hk_1
      have hk_8 : qk st_16 a_6 = 8 := by rw [(mo_X5_size a_13 _ _ _ hc_17).2.2.1]; exact hk_8
      have hk_15 : qk st_16 a_13 = 8 := by rw [(mo_X5_size a_13 _ _ _ hc_17).2.2.1]; exact hk_15
      obtain ⟨a_19, ha_20, hf⟩ := ono_some hf
      refine o_at3 ha_20 ?_
      obtain ⟨hk_21, hf⟩ := gd_some hf
      obtain ⟨st_22, hc_23, hf⟩ := bnv_some hf
      refine q_cv hp hA (va_runV (As := [va_rf (Option.map ad (qP st_9 h0 0)), .int 0, .int r_18]) (rest := []) ⟨hx, hb, hml, hown, hts⟩ (c_X5_become l dC dI ka ad ct a_19 (qP st_9 h0 0) 0 r_18 _ _ hc_23 _) (cwV 3 hts gq_X8_load_X5_become_132 rfl rfl rfl (by decide +kernel) ⟨Nat.le_of_ble_eq_true rfl, Nat.le_of_ble_eq_true rfl⟩) ⟨PrC.blind _, q_rv7 hK hp hC hk_21, q_pre hp hK hN hZ hC hR hL hA⟩ rfl rfl hl.1 rfl (lv_room (Nat.le_of_ble_eq_true rfl)) dX8_load_37 ⟨Nat.le_of_ble_eq_true rfl, Nat.le_of_ble_eq_true rfl⟩) (fun H locs hp => ?_)
      have hk_1 : qk st_22 h0 = 11 := by rw [(mo_X5_become a_19 (qP st_9 h0 0) 0 r_18 _ _ hc_23).2.2.1]; exact hk_1
      have hk_8 : qk st_22 a_6 = 8 := by rw [(mo_X5_become a_19 (qP st_9 h0 0) 0 r_18 _ _ hc_23).2.2.1]; exact hk_8
      have hk_15 : qk st_22 a_13 = 8 := by rw [(mo_X5_become a_19 (qP st_9 h0 0) 0 r_18 _ _ hc_23).2.2.1]; exact hk_15
      have hk_21 : qk st_22 a_19 = 8 := by rw [(mo_X5_become a_19 (qP st_9 h0 0) 0 r_18 _ _ hc_23).2.2.1]; exact hk_21
      refine lv_aload_n hx hb dX8_load_40 rfl (lv_at hl 1 rfl) ?_
      refine q_gp (ci := 10) (C := RX8) (T := TX8) (N := 12) (k := 0) hx hb hts iRX8 hown hK hp hk_1 (by decide) rfl rfl (by decide) rfl (Or.inl (hts (.fieldLink RX8 14 "RecordBench" "tape" "LRecordBench$Row;") (by decide +kernel))) (fun _ h9 => h9) dX8_load_41 ?_
      refine lv_iconst (v := 0) hx hb dX8_load_44 (by decide) ?_
      obtain ⟨a_25, ha_26, hf⟩ := ono_some hf
      refine o_at1 ha_26 ?_
      obtain ⟨hk_27, hf⟩ := gd_some hf
      obtain ⟨r_30, st_28, hc_29, hf⟩ := bnd_some hf
      refine q_ci hp hA (va_runV (As := [.int 0]) (rest := []) ⟨hx, hb, hml, hown, hts⟩ (c_X5_cut l dC dI ka ad ct a_25 0 _ _ _ hc_29 _) (cwV 1 hts gq_X8_load_X5_cut_83 rfl rfl rfl (by decide +kernel) ⟨Nat.le_of_ble_eq_true rfl, Nat.le_of_ble_eq_true rfl⟩) ⟨PrC.blind _, q_rv7 hK hp hC hk_27, q_pre hp hK hN hZ hC hR hL hA⟩ rfl rfl hl.1 rfl (lv_room (Nat.le_of_ble_eq_true rfl)) dX8_load_45 ⟨Nat.le_of_ble_eq_true rfl, Nat.le_of_ble_eq_true rfl⟩) (fun H locs hp => ?_)
      have hk_1 : qk st_28 h0 = 11 := by rw [(mo_X5_cut a_25 0 _ _ _ hc_29).2.2.1]; exact hk_1
      have hk_8 : qk st_28 a_6 = 8 := by rw [(mo_X5_cut a_25 0 _ _ _ hc_29).2.2.1]; exact hk_8
      have hk_15 : qk st_28 a_13 = 8 := by rw [(mo_X5_cut a_25 0 _ _ _ hc_29).2.2.1]; exact hk_15
      have hk_21 : qk st_28 a_19 = 8 := by rw [(mo_X5_cut a_25 0 _ _ _ hc_29).2.2.1]; exact hk_21
      have hk_27 : qk st_28 a_25 = 8 := by rw [(mo_X5_cut a_25 0 _ _ _ hc_29).2.2.1]; exact hk_27
      refine lv_pop hx hb dX8_load_48 rfl ?_
      refine o_aload_n hx hb dX8_load_49 rfl (lv_at hl 0 rfl) ?_
      refine o_at ha_20 ?_
      obtain ⟨r_33, st_31, hc_32, hf⟩ := bnd_some hf
      refine q_ci hp hA (va_runV (As := []) (rest := []) ⟨hx, hb, hml, hown, hts⟩ (c_X5_size l dC dI ka ad ct a_19 _ _ _ hc_32 _) (cwV 0 hts gq_X8_load_X5_size_76 rfl rfl rfl (by decide +kernel) ⟨Nat.le_of_ble_eq_true rfl, Nat.le_of_ble_eq_true rfl⟩) ⟨PrC.blind _, q_rv7 hK hp hC hk_21, q_pre hp hK hN hZ hC hR hL hA⟩ rfl rfl hl.1 rfl (lv_room (Nat.le_of_ble_eq_true rfl)) dX8_load_50 ⟨Nat.le_of_ble_eq_true rfl, Nat.le_of_ble_eq_true rfl⟩) (fun H locs hp => ?_)
      have hk_1 : qk st_31 h0 = 11 := by rw [(mo_X5_size a_19 _ _ _ hc_32).2.2.1]; exact hk_1
      have hk_8 : qk st_31 a_6 = 8 := by rw [(mo_X5_size a_19 _ _ _ hc_32).2.2.1]; exact hk_8
      have hk_15 : qk st_31 a_13 = 8 := by rw [(mo_X5_size a_19 _ _ _ hc_32).2.2.1]; exact hk_15
      have hk_21 : qk st_31 a_19 = 8 := by rw [(mo_X5_size a_19 _ _ _ hc_32).2.2.1]; exact hk_21
      have hk_27 : qk st_31 a_25 = 8 := by rw [(mo_X5_size a_19 _ _ _ hc_32).2.2.1]; exact hk_27
      obtain ⟨e1, e2⟩ := pr_some hf
      exact W.iret (v := r_33) hx hb hr (fun t ht hW => ⟨⟨r_33, (), rfl, e1, Cp.end e2 hp ht⟩, hp.2.1.F ht⟩) hp.2.1.2.2 dX8_load_53
    · have hf := pif_f c_12 hf
      refine lv_iconst (v := (-1)) hx hb dX8_load_22 (by decide) ?_
      obtain ⟨e1, e2⟩ := pr_some hf
      exact W.iret (v := (-1)) hx hb hr (fun t ht hW => ⟨⟨(-1), (), rfl, e1, Cp.end e2 hp ht⟩, hp.2.1.F ht⟩) hp.2.1.2.2 dX8_load_23
noncomputable def fX8_set (h0 : Nat) (p0 : Int32) (p1 : Int32) (p2 : Int32) (p3 : Int64) (st : CS) : Option (Int32 × CS) := gd (qk st h0 = 11) (bnd (fX8_recordOf h0 p0 st) (fun r_4 st_2 => bnd (fX8_makeOf (qP st_2 h0 2) p1 st_2) (fun r_7 st_5 => bnd (fX8_fieldOf h0 p1 p2 st_5) (fun r_10 st_8 => pif (r_4 = none) (some (((-1) : Int32), st_8)) (pif (r_7 = none) (some (((-1) : Int32), st_8)) (pif (r_10 = none) (some (((-1) : Int32), st_8)) (ono r_10 (fun a_14 => gd (qk st_8 a_14 = 3) (bnd (fX0_isNumber a_14 st_8) (fun r_19 st_17 => pif (r_19 = 0) (some (((-1) : Int32), st_17)) (ono (qP st_17 h0 4) (fun a_21 => gd (qk st_17 a_21 = 6) (bnd (fX3_isSound a_21 r_4 r_7 st_17) (fun r_26 st_24 => pif (r_26 = 0) (some (((-2) : Int32), st_24)) (bnd (fX0_holds a_14 p3 st_24) (fun r_30 st_28 => pif (r_30 = 0) (some (((-3) : Int32), st_28)) (ono (qP st_28 h0 7) (fun a_32 => gd (qk st_28 a_32 = 8) (bnd (fX5_cut a_32 0 st_28) (fun r_37 st_35 => ono (qP st_35 h0 7) (fun a_38 => gd (qk st_35 a_38 = 8) (bnv (fX5_pushKey a_38 r_10 st_35) (fun st_41 => ono (qP st_41 h0 7) (fun a_44 => gd (qk st_41 a_44 = 8) (bnv (fX5_pushNumber a_44 p3 st_41) (fun st_47 => bnd (fX8_settle h0 r_4 r_7 p2 (qI st_47 a_14 2) st_47) (fun r_52 st_50 => some (r_52, st_50))))))))))))))))))))))))))))
set_option maxHeartbeats 1000000 in
theorem mo_X8_set (h0 : Nat) (p0 : Int32) (p1 : Int32) (p2 : Int32) (p3 : Int64) (st : CS) (r : Int32) (st' : CS) (hf : fX8_set h0 p0 p1 p2 p3 st = some (r, st')) : Ke st st' := by
  unfold fX8_set at hf
  have hm : Ke st st := Ke.rf
  obtain ⟨hk_1, hf⟩ := gd_some hf
  obtain ⟨r_4, st_2, hc_3, hf⟩ := bnd_some hf
  have hm := hm.tr (mo_X8_recordOf h0 p0 _ _ _ hc_3)
  obtain ⟨r_7, st_5, hc_6, hf⟩ := bnd_some hf
  have hm := hm.tr (mo_X8_makeOf (qP st_2 h0 2) p1 _ _ _ hc_6)
  obtain ⟨r_10, st_8, hc_9, hf⟩ := bnd_some hf
  have hm := hm.tr (mo_X8_fieldOf h0 p1 p2 _ _ _ hc_9)
  rcases pif_or hf with ⟨c_11, hf⟩ | ⟨c_11, hf⟩
  · obtain ⟨e1, e2⟩ := pr_some hf
    exact e2 ▸ hm
  · rcases pif_or hf with ⟨c_12, hf⟩ | ⟨c_12, hf⟩
    · obtain ⟨e1, e2⟩ := pr_some hf
      exact e2 ▸ hm
    · rcases pif_or hf with ⟨c_13, hf⟩ | ⟨c_13, hf⟩
      · obtain ⟨e1, e2⟩ := pr_some hf
        exact e2 ▸ hm
      · obtain ⟨a_14, ha_15, hf⟩ := ono_some hf
        obtain ⟨hk_16, hf⟩ := gd_some hf
        obtain ⟨r_19, st_17, hc_18, hf⟩ := bnd_some hf
        have hm := hm.tr (mo_X0_isNumber a_14 _ _ _ hc_18)
        rcases pif_or hf with ⟨c_20, hf⟩ | ⟨c_20, hf⟩
        · obtain ⟨e1, e2⟩ := pr_some hf
          exact e2 ▸ hm
        · obtain ⟨a_21, ha_22, hf⟩ := ono_some hf
          obtain ⟨hk_23, hf⟩ := gd_some hf
          obtain ⟨r_26, st_24, hc_25, hf⟩ := bnd_some hf
          have hm := hm.tr (mo_X3_isSound a_21 r_4 r_7 _ _ _ hc_25)
          rcases pif_or hf with ⟨c_27, hf⟩ | ⟨c_27, hf⟩
          · obtain ⟨e1, e2⟩ := pr_some hf
            exact e2 ▸ hm
          · obtain ⟨r_30, st_28, hc_29, hf⟩ := bnd_some hf
            have hm := hm.tr (mo_X0_holds a_14 p3 _ _ _ hc_29)
            rcases pif_or hf with ⟨c_31, hf⟩ | ⟨c_31, hf⟩
            · obtain ⟨e1, e2⟩ := pr_some hf
              exact e2 ▸ hm
            · obtain ⟨a_32, ha_33, hf⟩ := ono_some hf
              obtain ⟨hk_34, hf⟩ := gd_some hf
              obtain ⟨r_37, st_35, hc_36, hf⟩ := bnd_some hf
              have hm := hm.tr (mo_X5_cut a_32 0 _ _ _ hc_36)
              obtain ⟨a_38, ha_39, hf⟩ := ono_some hf
              obtain ⟨hk_40, hf⟩ := gd_some hf
              obtain ⟨st_41, hc_42, hf⟩ := bnv_some hf
              have hm := hm.tr (mo_X5_pushKey a_38 r_10 _ _ hc_42)
              obtain ⟨a_44, ha_45, hf⟩ := ono_some hf
              obtain ⟨hk_46, hf⟩ := gd_some hf
              obtain ⟨st_47, hc_48, hf⟩ := bnv_some hf
              have hm := hm.tr (mo_X5_pushNumber a_44 p3 _ _ hc_48)
              obtain ⟨r_52, st_50, hc_51, hf⟩ := bnd_some hf
              have hm := hm.tr (mo_X8_settle h0 r_4 r_7 p2 (qI st_47 a_14 2) _ _ _ hc_51)
              obtain ⟨e1, e2⟩ := pr_some hf
              exact e2 ▸ hm
def wq_X8_set : List Cond := .code yX8_set cX8_set 9 (some .int) :: (([.fieldLink RX8 24 "RecordBench" "makes" "[LRecordBench$Make;", .fieldLink RX8 42 "RecordBench" "reader" "LRecordBench$RecordReader;", .fieldLink RX8 60 "RecordBench" "fresh" "LRecordBench$Row;", .methodLink RX8 128 yX8_recordOf, .instanceMethod yX8_recordOf, .selects RX8 yX8_recordOf yX8_recordOf, .initialized RX8, .methodLink RX8 136 yX8_makeOf, .static yX8_makeOf, .methodLink RX8 100 yX8_fieldOf, .instanceMethod yX8_fieldOf, .selects RX8 yX8_fieldOf yX8_fieldOf, .methodLink RX8 140 yX0_isNumber, .instanceMethod yX0_isNumber, .selects RX0 yX0_isNumber yX0_isNumber, .initialized RX0, .methodLink RX8 144 yX3_isSound, .instanceMethod yX3_isSound, .selects RX3 yX3_isSound yX3_isSound, .initialized RX3, .methodLink RX8 148 yX0_holds, .instanceMethod yX0_holds, .selects RX0 yX0_holds yX0_holds, .methodLink RX8 83 yX5_cut, .instanceMethod yX5_cut, .selects RX5 yX5_cut yX5_cut, .initialized RX5, .methodLink RX8 152 yX5_pushKey, .instanceMethod yX5_pushKey, .selects RX5 yX5_pushKey yX5_pushKey, .methodLink RX8 156 yX5_pushNumber, .instanceMethod yX5_pushNumber, .selects RX5 yX5_pushNumber yX5_pushNumber, .methodLink RX8 160 yX8_settle, .instanceMethod yX8_settle, .selects RX8 yX8_settle yX8_settle, .code yX8_recordOf cX8_recordOf 2 (some (.object "RecordBench$Row")), .fieldLink RX8 18 "RecordBench" "records" "[LRecordBench$Row;", .code yX8_makeOf cX8_makeOf 2 (some (.object "RecordBench$Make")), .code yX8_fieldOf cX8_fieldOf 4 (some (.object "RecordBench$Field")), .methodLink RX8 225 yX1_fieldAt, .instanceMethod yX1_fieldAt, .selects RX1 yX1_fieldAt yX1_fieldAt, .initialized RX1, .code yX1_fieldAt cX1_fieldAt 2 (some (.object "RecordBench$Field")), .fieldLink RX1 11 "RecordBench$Make" "fields" "[LRecordBench$Field;", .code yX0_isNumber cX0_isNumber 1 (some .boolean), .fieldLink RX0 15 "RecordBench$Field" "kind" "I", .code yX3_isSound cX3_isSound 3 (some .boolean), .fieldLink RX3 22 "RecordBench$RecordReader" "fault" "I", .fieldLink RX3 26 "RecordBench$RecordReader" "place" "I", .methodLink RX3 29 yX5_size, .instanceMethod yX5_size, .selects RX5 yX5_size yX5_size, .methodLink RX3 35 yX3_scan, .instanceMethod yX3_scan, .selects RX3 yX3_scan yX3_scan, .code yX5_size cX5_size 1 (some .int), .fieldLink RX5 21 "RecordBench$Row" "size" "I", .code yX3_scan cX3_scan 13 (some .boolean), .fieldLink RX3 17 "RecordBench$RecordReader" "pieces" "[LRecordBench$Piece;", .methodLink RX3 79 yX3_groupBit, .static yX3_groupBit, .methodLink RX3 43 yX2_look, .instanceMethod yX2_look, .selects RX2 yX2_look yX2_look, .initialized RX2, .methodLink RX3 50 yX1_knownAt, .instanceMethod yX1_knownAt, .selects RX1 yX1_knownAt yX1_knownAt, .methodLink RX3 56 yX3_faultOf, .static yX3_faultOf, .methodLink RX3 60 yX3_isRec, .static yX3_isRec, .fieldLink RX3 9 "RecordBench$RecordReader" "makes" "[LRecordBench$Make;", .methodLink RX3 39 yX3_refuse, .instanceMethod yX3_refuse, .selects RX3 yX3_refuse yX3_refuse, .code yX3_groupBit cX3_groupBit 1 (some .int), .code yX2_look cX2_look 6 none, .fieldLink RX2 9 "RecordBench$Piece" "number" "I", .fieldLink RX2 15 "RecordBench$Piece" "withLength" "Z", .fieldLink RX2 19 "RecordBench$Piece" "raw" "J", .fieldLink RX2 23 "RecordBench$Piece" "body" "I", .fieldLink RX2 26 "RecordBench$Piece" "end" "I", .fieldLink RX2 29 "RecordBench$Piece" "fault" "I", .fieldLink RX2 32 "RecordBench$Piece" "pos" "I", .fieldLink RX2 35 "RecordBench$Piece" "broken" "Z", .methodLink RX2 42 yX2_place, .instanceMethod yX2_place, .selects RX2 yX2_place yX2_place, .methodLink RX2 38 yX2_takeVarint, .instanceMethod yX2_takeVarint, .selects RX2 yX2_takeVarint yX2_takeVarint, .code yX2_place cX2_place 6 none, .constantLong RX2 46 (30), .code yX2_takeVarint cX2_takeVarint 7 (some .long), .constantLong RX2 54 (127), .methodLink RX2 48 yX5_byteAt, .instanceMethod yX5_byteAt, .selects RX5 yX5_byteAt yX5_byteAt, .code yX5_byteAt cX5_byteAt 2 (some .int), .fieldLink RX5 15 "RecordBench$Row" "bytes" "[I", .code yX1_knownAt cX1_knownAt 3 (some (.object "RecordBench$Field")), .methodLink RX1 21 yX1_fieldAt, .code yX3_faultOf cX3_faultOf 5 (some .int), .methodLink RX3 92 yX3_fits, .static yX3_fits, .methodLink RX3 88 yX0_hasLength, .instanceMethod yX0_hasLength, .selects RX0 yX0_hasLength yX0_hasLength, .code yX3_fits cX3_fits 3 (some .boolean), .methodLink RX3 96 yX0_isNumber, .methodLink RX3 110 yX5_isText, .instanceMethod yX5_isText, .selects RX5 yX5_isText yX5_isText, .methodLink RX3 99 yX2_asNumber, .instanceMethod yX2_asNumber, .selects RX2 yX2_asNumber yX2_asNumber, .methodLink RX3 103 yX0_holds, .code yX5_isText cX5_isText 4 (some .boolean), .methodLink RX5 48 yX5_byteAt, .methodLink RX5 52 yX5_isTextByte, .static yX5_isTextByte, .code yX5_isTextByte cX5_isTextByte 1 (some .boolean), .code yX2_asNumber cX2_asNumber 1 (some .long), .code yX0_holds cX0_holds 3 (some .boolean), .constantLong RX0 37 (-128), .constantLong RX0 39 (127), .constantLong RX0 41 (-2147483648), .constantLong RX0 43 (2147483647), .code yX0_hasLength cX0_hasLength 1 (some .boolean), .code yX3_isRec cX3_isRec 1 (some .boolean), .code yX3_refuse cX3_refuse 3 (some .boolean), .code yX5_cut cX5_cut 2 (some .boolean), .code yX5_pushKey cX5_pushKey 2 none, .constantLong RX5 37 (2), .methodLink RX5 33 yX5_pushVarint, .instanceMethod yX5_pushVarint, .selects RX5 yX5_pushVarint yX5_pushVarint, .methodLink RX5 44 yX0_hasLength, .code yX5_pushVarint cX5_pushVarint 6 none, .constantLong RX5 29 (-128), .constantLong RX5 31 (127), .methodLink RX5 25 yX5_push, .instanceMethod yX5_push, .selects RX5 yX5_push yX5_push, .code yX5_push cX5_push 2 none, .code yX5_pushNumber cX5_pushNumber 3 none, .code yX8_settle cX8_settle 5 (some .int), .fieldLink RX8 49 "RecordBench" "writer" "LRecordBench$RecordWriter;", .fieldLink RX8 63 "RecordBench" "work" "LRecordBench$Row;", .methodLink RX8 221 yX4_rewriteWith, .instanceMethod yX4_rewriteWith, .selects RX4 yX4_rewriteWith yX4_rewriteWith, .initialized RX4, .methodLink RX8 76 yX5_size, .methodLink RX8 132 yX5_become, .instanceMethod yX5_become, .selects RX5 yX5_become yX5_become, .code yX4_rewriteWith cX4_rewriteWith 13 none, .fieldLink RX4 17 "RecordBench$RecordWriter" "pieces" "[LRecordBench$Piece;", .methodLink RX4 39 yX5_size, .methodLink RX4 51 yX5_append, .instanceMethod yX5_append, .selects RX5 yX5_append yX5_append, .methodLink RX4 66 yX4_copyPiece, .instanceMethod yX4_copyPiece, .selects RX4 yX4_copyPiece yX4_copyPiece, .methodLink RX4 54 yX1_knownAt, .methodLink RX4 43 yX2_look, .methodLink RX4 35 yX5_cut, .code yX5_append cX5_append 5 none, .code yX4_copyPiece cX4_copyPiece 8 none, .fieldLink RX4 9 "RecordBench$RecordWriter" "makes" "[LRecordBench$Make;", .methodLink RX4 73 yX5_pushKey, .methodLink RX4 77 yX0_isNumber, .methodLink RX4 102 yX5_push, .methodLink RX4 112 yX4_copyAll, .instanceMethod yX4_copyAll, .selects RX4 yX4_copyAll yX4_copyAll, .methodLink RX4 116 yX5_replace, .instanceMethod yX5_replace, .selects RX5 yX5_replace yX5_replace, .methodLink RX4 96 yX5_pushVarint, .methodLink RX4 81 yX2_asNumber, .methodLink RX4 85 yX5_pushNumber, .code yX4_copyAll cX4_copyAll 10 none, .code yX5_replace cX5_replace 3 none, .code yX5_become cX5_become 6 none] : List Cond) ++ wsX80 ++ wsX00 ++ wsX10 ++ wsX30 ++ wsX50 ++ wsX20 ++ wsX40)
theorem gs_wq_X8_set_wsX80 : GoodIn wq_X8_set wsX80 := fun w h => ⟨List.mem_cons_of_mem _ (List.mem_append_left _ (List.mem_append_left _ (List.mem_append_left _ (List.mem_append_left _ (List.mem_append_left _ (List.mem_append_left _ (List.mem_append_right _ h))))))), (gt_wsX80 w h).2⟩
set_option maxRecDepth 20000 in
theorem gq_X8_set_X8_recordOf_128 : GoodIn wq_X8_set (wsV RX8 128 RX8 yX8_recordOf wq_X8_recordOf) := goodIn_app (goodIn_r _ [4, 5, 6, 7] rfl rfl) (goodIn_ca (goodIn_r _ [37, 38] rfl rfl) gs_wq_X8_set_wsX80)
set_option maxRecDepth 20000 in
theorem gq_X8_set_X8_makeOf_136 : GoodIn wq_X8_set (va_wsS RX8 136 yX8_makeOf wq_X8_makeOf) := goodIn_app (goodIn_r _ [8, 9, 7] rfl rfl) (goodIn_r _ [39] rfl rfl)
theorem gs_wq_X8_set_wsX10 : GoodIn wq_X8_set wsX10 := fun w h => ⟨List.mem_cons_of_mem _ (List.mem_append_left _ (List.mem_append_left _ (List.mem_append_left _ (List.mem_append_left _ (List.mem_append_right _ h))))), (gt_wsX10 w h).2⟩
set_option maxRecDepth 20000 in
theorem gq_X8_set_X8_fieldOf_100 : GoodIn wq_X8_set (wsV RX8 100 RX8 yX8_fieldOf wq_X8_fieldOf) := goodIn_app (goodIn_r _ [10, 11, 12, 7] rfl rfl) (goodIn_ca (goodIn_ca (goodIn_r _ [40, 1, 8, 9, 7, 41, 42, 43, 44, 39, 45, 46] rfl rfl) gs_wq_X8_set_wsX80) gs_wq_X8_set_wsX10)
theorem gs_wq_X8_set_wsX00 : GoodIn wq_X8_set wsX00 := fun w h => ⟨List.mem_cons_of_mem _ (List.mem_append_left _ (List.mem_append_left _ (List.mem_append_left _ (List.mem_append_left _ (List.mem_append_left _ (List.mem_append_right _ h)))))), (gt_wsX00 w h).2⟩
set_option maxRecDepth 20000 in
theorem gq_X8_set_X0_isNumber_140 : GoodIn wq_X8_set (wsV RX8 140 RX0 yX0_isNumber wq_X0_isNumber) := goodIn_app (goodIn_r _ [13, 14, 15, 16] rfl rfl) (goodIn_ca (goodIn_r _ [47, 48] rfl rfl) gs_wq_X8_set_wsX00)
theorem gs_wq_X8_set_wsX30 : GoodIn wq_X8_set wsX30 := fun w h => ⟨List.mem_cons_of_mem _ (List.mem_append_left _ (List.mem_append_left _ (List.mem_append_left _ (List.mem_append_right _ h)))), (gt_wsX30 w h).2⟩
theorem gs_wq_X8_set_wsX50 : GoodIn wq_X8_set wsX50 := fun w h => ⟨List.mem_cons_of_mem _ (List.mem_append_left _ (List.mem_append_left _ (List.mem_append_right _ h))), (gt_wsX50 w h).2⟩
theorem gs_wq_X8_set_wsX20 : GoodIn wq_X8_set wsX20 := fun w h => ⟨List.mem_cons_of_mem _ (List.mem_append_left _ (List.mem_append_right _ h)), (gt_wsX20 w h).2⟩
set_option maxRecDepth 20000 in
theorem gq_X8_set_X3_isSound_144 : GoodIn wq_X8_set (wsV RX8 144 RX3 yX3_isSound wq_X3_isSound) := goodIn_app (goodIn_r _ [17, 18, 19, 20] rfl rfl) (goodIn_ca (goodIn_ca (goodIn_ca (goodIn_ca (goodIn_ca (goodIn_r _ [49, 50, 51, 52, 53, 54, 27, 55, 56, 57, 20, 58, 59, 60, 61, 62, 63, 64, 65, 66, 67, 68, 69, 70, 44, 71, 72, 73, 74, 75, 9, 7, 76, 77, 78, 79, 80, 81, 82, 83, 84, 85, 86, 87, 88, 89, 90, 91, 92, 93, 94, 95, 96, 97, 98, 99, 100, 101, 102, 103, 104, 105, 42, 43, 45, 46, 106, 107, 108, 109, 110, 111, 16, 112, 113, 14, 15, 114, 115, 116, 117, 118, 119, 120, 22, 23, 47, 48, 121, 122, 123, 124, 125, 126, 127, 128, 129, 130, 131, 132, 133, 39, 134] rfl rfl) gs_wq_X8_set_wsX30) gs_wq_X8_set_wsX50) gs_wq_X8_set_wsX20) gs_wq_X8_set_wsX00) gs_wq_X8_set_wsX10)
set_option maxRecDepth 20000 in
theorem gq_X8_set_X0_holds_148 : GoodIn wq_X8_set (wsV RX8 148 RX0 yX0_holds wq_X0_holds) := goodIn_app (goodIn_r _ [21, 22, 23, 16] rfl rfl) (goodIn_ca (goodIn_r _ [127, 48, 128, 129, 130, 131] rfl rfl) gs_wq_X8_set_wsX00)
set_option maxRecDepth 20000 in
theorem gq_X8_set_X5_cut_83 : GoodIn wq_X8_set (wsV RX8 83 RX5 yX5_cut wq_X5_cut) := goodIn_app (goodIn_r _ [24, 25, 26, 27] rfl rfl) (goodIn_ca (goodIn_r _ [135, 59] rfl rfl) gs_wq_X8_set_wsX50)
set_option maxRecDepth 20000 in
theorem gq_X8_set_X5_pushKey_152 : GoodIn wq_X8_set (wsV RX8 152 RX5 yX5_pushKey wq_X5_pushKey) := goodIn_app (goodIn_r _ [28, 29, 30, 27] rfl rfl) (goodIn_ca (goodIn_ca (goodIn_r _ [136, 137, 138, 139, 140, 27, 141, 110, 111, 16, 142, 143, 144, 145, 146, 147, 148, 59, 103, 132, 48] rfl rfl) gs_wq_X8_set_wsX00) gs_wq_X8_set_wsX50)
set_option maxRecDepth 20000 in
theorem gq_X8_set_X5_pushNumber_156 : GoodIn wq_X8_set (wsV RX8 156 RX5 yX5_pushNumber wq_X5_pushNumber) := goodIn_app (goodIn_r _ [31, 32, 33, 27] rfl rfl) (goodIn_ca (goodIn_r _ [149, 138, 139, 140, 27, 142, 143, 144, 145, 146, 147, 148, 59, 103] rfl rfl) gs_wq_X8_set_wsX50)
theorem gs_wq_X8_set_wsX40 : GoodIn wq_X8_set wsX40 := fun w h => ⟨List.mem_cons_of_mem _ (List.mem_append_right _ h), (gt_wsX40 w h).2⟩
set_option maxRecDepth 20000 in
theorem gq_X8_set_X8_settle_160 : GoodIn wq_X8_set (wsV RX8 160 RX8 yX8_settle wq_X8_settle) := goodIn_app (goodIn_r _ [34, 35, 36, 7] rfl rfl) (goodIn_ca (goodIn_ca (goodIn_ca (goodIn_ca (goodIn_ca (goodIn_ca (goodIn_r _ [150, 151, 3, 152, 153, 154, 155, 156, 157, 53, 54, 27, 158, 159, 160, 161, 162, 163, 164, 165, 166, 167, 168, 169, 170, 69, 70, 44, 171, 65, 66, 67, 172, 25, 26, 58, 59, 173, 122, 100, 101, 145, 146, 147, 102, 103, 148, 174, 175, 176, 29, 30, 177, 14, 15, 16, 178, 9, 7, 179, 180, 181, 182, 183, 184, 185, 139, 140, 186, 118, 119, 187, 32, 33, 136, 137, 138, 141, 110, 111, 142, 143, 144, 132, 48, 47, 39, 188, 80, 81, 82, 83, 84, 85, 86, 87, 88, 89, 90, 91, 92, 93, 94, 95, 96, 97, 98, 99, 104, 105, 42, 43, 45, 46, 189, 126, 149, 135, 190] rfl rfl) gs_wq_X8_set_wsX80) gs_wq_X8_set_wsX40) gs_wq_X8_set_wsX20) gs_wq_X8_set_wsX00) gs_wq_X8_set_wsX50) gs_wq_X8_set_wsX10)
set_option maxHeartbeats 4000000 in
set_option maxRecDepth 100000 in
theorem c_X8_set (l : Launch) (dC : Nat → ClassId) (dI : Nat → Nat → Nat) (ka ad : Nat → Nat) (ct : Nat → ClassId) (h0 : Nat) (p0 : Int32) (p1 : Int32) (p2 : Int32) (p3 : Int64) (st st' : CS) (r : Int32) (hf : fX8_set h0 p0 p1 p2 p3 st = some (r, st')) (sz : Nat) : Met l yX8_set wq_X8_set ({ frames := 54, cells := 0, slots := 0, locals := 1507 }) (va_Pc [.ref (ad h0), .int p0, .int p1, .int p2, .long p3] (PrC (dC, dI) ct ka ad st sz)) (va_Qi (fun r' (_ : Unit) => r' = r) (fun _ => CB (dC, dI) ct ka ad st' (aC ad st sz)) (aC ad st sz)) 0 0 (aC ad st sz) := by
  refine Met.ofW (cc := cX8_set) (maxL := 9) (ret := (some .int)) (by decide) rfl ?_
  intro p e s m args below meth c s₁ B hml hv
  obtain ⟨rfl, hsz, hw0, hK, hN, hZ, hC, hR, hL, hw1, hw2⟩ := hv
  have hx := B.exec
  have hb := B.bytes
  have hr := B.returns
  have hts := atoms_spec (ws := wq_X8_set) B.pre
  have hown : s.vm.findClass RX8 = some m.cls := findClass_of_methodNamed B.named
  have iRX8 : ∀ w ∈ u_ws RX8 TX8 12, w ∈ wq_X8_set := fun w h => List.mem_cons_of_mem _ (List.mem_append_left _ (List.mem_append_left _ (List.mem_append_left _ (List.mem_append_left _ (List.mem_append_left _ (List.mem_append_left _ (List.mem_append_right _ h)))))))
  have iRX0 : ∀ w ∈ u_ws RX0 TX0 7, w ∈ wq_X8_set := fun w h => List.mem_cons_of_mem _ (List.mem_append_left _ (List.mem_append_left _ (List.mem_append_left _ (List.mem_append_left _ (List.mem_append_left _ (List.mem_append_right _ h))))))
  subst hsz
  have hp : Cp (dC, dI) ka ad ct (aC ad st s.heap.size) s.heap st s.heap [] := ⟨fun i a b => ⟨hw0 i a b, Or.inl ⟨i, a, b, rfl⟩⟩, va_S.rf, hw1, hw2⟩
  generalize hAe : aC ad st s.heap.size = A at hp hZ hC ⊢
  have hA : ∀ q : Nat, s.heap.size ≤ q → A q := fun q h => by rw [← hAe]; exact Or.inr h
  have hl := lv_entry ([.ref (ad h0), .int p0, .int p1, .int p2, .long p3]) (n := 9) (Nat.le_of_ble_eq_true rfl)
  rw [lg_entry_eq]
  generalize (lg_sl ([.ref (ad h0), .int p0, .int p1, .int p2, .long p3]) ++ List.replicate (9 - (lg_sl ([.ref (ad h0), .int p0, .int p1, .int p2, .long p3])).length) Slot.unset).toArray = ls at hl ⊢
  have hl : lv_has ls 9 [(0, .ref (ad h0)), (1, .int p0), (2, .int p1), (3, .int p2), (4, .long p3)] := hl
  unfold fX8_set at hf
  refine lv_aload_n hx hb dX8_set_0 rfl (lv_at hl 0 rfl) ?_
  refine lv_iload_n hx hb dX8_set_1 rfl (lv_at hl 1 rfl) ?_
  obtain ⟨hk_1, hf⟩ := gd_some hf
  obtain ⟨r_4, st_2, hc_3, hf⟩ := bnd_some hf
  refine q_cq hp hA (va_runV (As := [.int p0]) (rest := []) ⟨hx, hb, hml, hown, hts⟩ (c_X8_recordOf l dC dI ka ad ct h0 p0 _ _ _ hc_3 _) (cwV 1 hts gq_X8_set_X8_recordOf_128 rfl rfl rfl (by decide +kernel) ⟨Nat.le_of_ble_eq_true rfl, Nat.le_of_ble_eq_true rfl⟩) ⟨PrC.blind _, q_rv10 hK hp hC hk_1, q_pre hp hK hN hZ hC hR hL hA⟩ rfl rfl hl.1 rfl (lv_room (Nat.le_of_ble_eq_true rfl)) dX8_set_2 ⟨Nat.le_of_ble_eq_true rfl, Nat.le_of_ble_eq_true rfl⟩) (fun H locs hp => ?_)
  have hk_1 : qk st_2 h0 = 11 := by rw [(mo_X8_recordOf h0 p0 _ _ _ hc_3).2.2.1]; exact hk_1
  refine o_astore (i := 6) (lv' := [(6, va_rf (Option.map ad r_4)), (0, .ref (ad h0)), (1, .int p0), (2, .int p1), (3, .int p2), (4, .long p3)]) hx hb dX8_set_5 hl (by decide) rfl (fun ls hl => ?_)
  refine lv_aload_n hx hb dX8_set_7 rfl (lv_at hl 1 rfl) ?_
  refine q_gp (ci := 10) (C := RX8) (T := TX8) (N := 12) (k := 2) hx hb hts iRX8 hown hK hp hk_1 (by decide) rfl rfl (by decide) rfl (Or.inl (hts (.fieldLink RX8 24 "RecordBench" "makes" "[LRecordBench$Make;") (by decide +kernel))) (fun _ h9 => h9) dX8_set_8 ?_
  refine lv_iload_n hx hb dX8_set_11 rfl (lv_at hl 3 rfl) ?_
  obtain ⟨r_7, st_5, hc_6, hf⟩ := bnd_some hf
  refine q_cq hp hA (va_runS (As := [va_rf (Option.map ad (qP st_2 h0 2)), .int p1]) (rest := []) ⟨hx, hb, hml, hown, hts⟩ (c_X8_makeOf l dC dI ka ad ct (qP st_2 h0 2) p1 _ _ _ hc_6 _) (va_cwS 2 hts gq_X8_set_X8_makeOf_136 rfl rfl rfl (by decide +kernel) ⟨Nat.le_of_ble_eq_true rfl, Nat.le_of_ble_eq_true rfl⟩) ⟨PrC.blind _, q_pre hp hK hN hZ hC hR hL hA⟩ rfl rfl hl.1 rfl (lv_room (Nat.le_of_ble_eq_true rfl)) dX8_set_12 ⟨Nat.le_of_ble_eq_true rfl, Nat.le_of_ble_eq_true rfl⟩) (fun H locs hp => ?_)
  have hk_1 : qk st_5 h0 = 11 := by rw [(mo_X8_makeOf (qP st_2 h0 2) p1 _ _ _ hc_6).2.2.1]; exact hk_1
  refine o_astore (i := 7) (lv' := [(7, va_rf (Option.map ad r_7)), (6, va_rf (Option.map ad r_4)), (0, .ref (ad h0)), (1, .int p0), (2, .int p1), (3, .int p2), (4, .long p3)]) hx hb dX8_set_15 hl (by decide) (by simp [rf_cat, vc_i, vc_l, vc_r, vc_n]) (fun ls hl => ?_)
  refine lv_aload_n hx hb dX8_set_17 rfl (lv_at hl 2 rfl) ?_
  refine lv_iload_n hx hb dX8_set_18 rfl (lv_at hl 4 rfl) ?_
  refine lv_iload_n hx hb dX8_set_19 rfl (lv_at hl 5 rfl) ?_
  obtain ⟨r_10, st_8, hc_9, hf⟩ := bnd_some hf
  refine q_cq hp hA (va_runV (As := [.int p1, .int p2]) (rest := []) ⟨hx, hb, hml, hown, hts⟩ (c_X8_fieldOf l dC dI ka ad ct h0 p1 p2 _ _ _ hc_9 _) (cwV 2 hts gq_X8_set_X8_fieldOf_100 rfl rfl rfl (by decide +kernel) ⟨Nat.le_of_ble_eq_true rfl, Nat.le_of_ble_eq_true rfl⟩) ⟨PrC.blind _, q_rv10 hK hp hC hk_1, q_pre hp hK hN hZ hC hR hL hA⟩ rfl rfl hl.1 rfl (lv_room (Nat.le_of_ble_eq_true rfl)) dX8_set_20 ⟨Nat.le_of_ble_eq_true rfl, Nat.le_of_ble_eq_true rfl⟩) (fun H locs hp => ?_)
  have hk_1 : qk st_8 h0 = 11 := by rw [(mo_X8_fieldOf h0 p1 p2 _ _ _ hc_9).2.2.1]; exact hk_1
  refine o_astore (i := 8) (lv' := [(8, va_rf (Option.map ad r_10)), (7, va_rf (Option.map ad r_7)), (6, va_rf (Option.map ad r_4)), (0, .ref (ad h0)), (1, .int p0), (2, .int p1), (3, .int p2), (4, .long p3)]) hx hb dX8_set_23 hl (by decide) (by simp [rf_cat, vc_i, vc_l, vc_r, vc_n]) (fun ls hl => ?_)
  refine o_aload hx hb dX8_set_25 (lv_at hl 2 rfl) ?_
  refine o_ifnull (tgt := 48) hx hb dX8_set_27 (by decide) (fun c_11 => ?_) (fun c_11 => ?_)
  · have hf := pif_t c_11 hf
    refine lv_iconst (v := (-1)) hx hb dX8_set_48 (by decide) ?_
    obtain ⟨e1, e2⟩ := pr_some hf
    exact W.iret (v := (-1)) hx hb hr (fun t ht hW => ⟨⟨(-1), (), rfl, e1, Cp.end e2 hp ht⟩, hp.2.1.F ht⟩) hp.2.1.2.2 dX8_set_49
  · have hf := pif_f c_11 hf
    refine o_aload hx hb dX8_set_30 (lv_at hl 1 rfl) ?_
    refine o_ifnull (tgt := 48) hx hb dX8_set_32 (by decide) (fun c_12 => ?_) (fun c_12 => ?_)
    · have hf := pif_t c_12 hf
      refine lv_iconst (v := (-1)) hx hb dX8_set_48 (by decide) ?_
      obtain ⟨e1, e2⟩ := pr_some hf
      exact W.iret (v := (-1)) hx hb hr (fun t ht hW => ⟨⟨(-1), (), rfl, e1, Cp.end e2 hp ht⟩, hp.2.1.F ht⟩) hp.2.1.2.2 dX8_set_49
    · have hf := pif_f c_12 hf
      refine o_aload hx hb dX8_set_35 (lv_at hl 0 rfl) ?_
      refine o_ifnull (tgt := 48) hx hb dX8_set_37 (by decide) (fun c_13 => ?_) (fun c_13 => ?_)
      · have hf := pif_t c_13 hf
        refine lv_iconst (v := (-1)) hx hb dX8_set_48 (by decide) ?_
        obtain ⟨e1, e2⟩ := pr_some hf
        exact W.iret (v := (-1)) hx hb hr (fun t ht hW => ⟨⟨(-1), (), rfl, e1, Cp.end e2 hp ht⟩, hp.2.1.F ht⟩) hp.2.1.2.2 dX8_set_49
      · have hf := pif_f c_13 hf
        refine o_aload hx hb dX8_set_40 (lv_at hl 0 rfl) ?_
        obtain ⟨a_14, ha_15, hf⟩ := ono_some hf
        refine o_at ha_15 ?_
        obtain ⟨hk_16, hf⟩ := gd_some hf
        obtain ⟨r_19, st_17, hc_18, hf⟩ := bnd_some hf
        refine q_ci hp hA (va_runV (As := []) (rest := []) ⟨hx, hb, hml, hown, hts⟩ (c_X0_isNumber l dC dI ka ad ct a_14 _ _ _ hc_18 _) (cwV 0 hts gq_X8_set_X0_isNumber_140 rfl rfl rfl (by decide +kernel) ⟨Nat.le_of_ble_eq_true rfl, Nat.le_of_ble_eq_true rfl⟩) ⟨PrC.blind _, q_rv2 hK hp hC hk_16, q_pre hp hK hN hZ hC hR hL hA⟩ rfl rfl hl.1 rfl (lv_room (Nat.le_of_ble_eq_true rfl)) dX8_set_42 ⟨Nat.le_of_ble_eq_true rfl, Nat.le_of_ble_eq_true rfl⟩) (fun H locs hp => ?_)
        have hk_1 : qk st_17 h0 = 11 := by rw [(mo_X0_isNumber a_14 _ _ _ hc_18).2.2.1]; exact hk_1
        have hk_16 : qk st_17 a_14 = 3 := by rw [(mo_X0_isNumber a_14 _ _ _ hc_18).2.2.1]; exact hk_16
        refine lv_if_ne (tgt := 50) hx hb dX8_set_45 (by decide) (fun c_20 => ?_) (fun c_20 => ?_)
        · have hf := pif_f c_20 hf
          refine lv_aload_n hx hb dX8_set_50 rfl (lv_at hl 3 rfl) ?_
          refine q_gp (ci := 10) (C := RX8) (T := TX8) (N := 12) (k := 4) hx hb hts iRX8 hown hK hp hk_1 (by decide) rfl rfl (by decide) rfl (Or.inl (hts (.fieldLink RX8 42 "RecordBench" "reader" "LRecordBench$RecordReader;") (by decide +kernel))) (fun _ h9 => h9) dX8_set_51 ?_
          refine o_aload hx hb dX8_set_54 (lv_at hl 2 rfl) ?_
          refine o_aload hx hb dX8_set_56 (lv_at hl 1 rfl) ?_
          obtain ⟨a_21, ha_22, hf⟩ := ono_some hf
          refine o_at2 ha_22 ?_
          obtain ⟨hk_23, hf⟩ := gd_some hf
          obtain ⟨r_26, st_24, hc_25, hf⟩ := bnd_some hf
          refine q_ci hp hA (va_runV (As := [va_rf (Option.map ad r_4), va_rf (Option.map ad r_7)]) (rest := []) ⟨hx, hb, hml, hown, hts⟩ (c_X3_isSound l dC dI ka ad ct a_21 r_4 r_7 _ _ _ hc_25 _) (cwV 2 hts gq_X8_set_X3_isSound_144 rfl rfl rfl (by decide +kernel) ⟨Nat.le_of_ble_eq_true rfl, Nat.le_of_ble_eq_true rfl⟩) ⟨PrC.blind _, q_rv5 hK hp hC hk_23, q_pre hp hK hN hZ hC hR hL hA⟩ rfl rfl hl.1 rfl (lv_room (Nat.le_of_ble_eq_true rfl)) dX8_set_58 ⟨Nat.le_of_ble_eq_true rfl, Nat.le_of_ble_eq_true rfl⟩) (fun H locs hp => ?_)
          have hk_1 : qk st_24 h0 = 11 := by rw [(mo_X3_isSound a_21 r_4 r_7 _ _ _ hc_25).2.2.1]; exact hk_1
          have hk_16 : qk st_24 a_14 = 3 := by rw [(mo_X3_isSound a_21 r_4 r_7 _ _ _ hc_25).2.2.1]; exact hk_16
          have hk_23 : qk st_24 a_21 = 6 := by rw [(mo_X3_isSound a_21 r_4 r_7 _ _ _ hc_25).2.2.1]; exact hk_23
          refine lv_if_ne (tgt := 67) hx hb dX8_set_61 (by decide) (fun c_27 => ?_) (fun c_27 => ?_)
          · have hf := pif_f c_27 hf
            refine o_aload hx hb dX8_set_67 (lv_at hl 0 rfl) ?_
            refine lv_lload hx hb dX8_set_69 (lv_at hl 7 rfl) ?_
            refine o_at1 ha_15 ?_
            obtain ⟨r_30, st_28, hc_29, hf⟩ := bnd_some hf
            refine q_ci hp hA (va_runV (As := [.long p3]) (rest := []) ⟨hx, hb, hml, hown, hts⟩ (c_X0_holds l dC dI ka ad ct a_14 p3 _ _ _ hc_29 _) (cwV 1 hts gq_X8_set_X0_holds_148 rfl rfl rfl (by decide +kernel) ⟨Nat.le_of_ble_eq_true rfl, Nat.le_of_ble_eq_true rfl⟩) ⟨PrC.blind _, q_rv2 hK hp hC hk_16, q_pre hp hK hN hZ hC hR hL hA⟩ rfl rfl hl.1 rfl (lv_room (Nat.le_of_ble_eq_true rfl)) dX8_set_71 ⟨Nat.le_of_ble_eq_true rfl, Nat.le_of_ble_eq_true rfl⟩) (fun H locs hp => ?_)
            have hk_1 : qk st_28 h0 = 11 := by rw [(mo_X0_holds a_14 p3 _ _ _ hc_29).2.2.1]; exact hk_1
            have hk_16 : qk st_28 a_14 = 3 := by rw [(mo_X0_holds a_14 p3 _ _ _ hc_29).2.2.1]; exact hk_16
            have hk_23 : qk st_28 a_21 = 6 := by rw [(mo_X0_holds a_14 p3 _ _ _ hc_29).2.2.1]; exact hk_23
            refine lv_if_ne (tgt := 80) hx hb dX8_set_74 (by decide) (fun c_31 => ?_) (fun c_31 => ?_)
            · have hf := pif_f c_31 hf
              refine lv_aload_n hx hb dX8_set_80 rfl (lv_at hl 3 rfl) ?_
              refine q_gp (ci := 10) (C := RX8) (T := TX8) (N := 12) (k := 7) hx hb hts iRX8 hown hK hp hk_1 (by decide) rfl rfl (by decide) rfl (Or.inl (hts (.fieldLink RX8 60 "RecordBench" "fresh" "LRecordBench$Row;") (by decide +kernel))) (fun _ h9 => h9) dX8_set_81 ?_
              refine lv_iconst (v := 0) hx hb dX8_set_84 (by decide) ?_
              obtain ⟨a_32, ha_33, hf⟩ := ono_some hf
              refine o_at1 ha_33 ?_
              obtain ⟨hk_34, hf⟩ := gd_some hf
              obtain ⟨r_37, st_35, hc_36, hf⟩ := bnd_some hf
              refine q_ci hp hA (va_runV (As := [.int 0]) (rest := []) ⟨hx, hb, hml, hown, hts⟩ (c_X5_cut l dC dI ka ad ct a_32 0 _ _ _ hc_36 _) (cwV 1 hts gq_X8_set_X5_cut_83 rfl rfl rfl (by decide +kernel) ⟨Nat.le_of_ble_eq_true rfl, Nat.le_of_ble_eq_true rfl⟩) ⟨PrC.blind _, q_rv7 hK hp hC hk_34, q_pre hp hK hN hZ hC hR hL hA⟩ rfl rfl hl.1 rfl (lv_room (Nat.le_of_ble_eq_true rfl)) dX8_set_85 ⟨Nat.le_of_ble_eq_true rfl, Nat.le_of_ble_eq_true rfl⟩) (fun H locs hp => ?_)
              have hk_1 : qk st_35 h0 = 11 := by rw [(mo_X5_cut a_32 0 _ _ _ hc_36).2.2.1]; exact hk_1
              have hk_16 : qk st_35 a_14 = 3 := by rw [(mo_X5_cut a_32 0 _ _ _ hc_36).2.2.1]; exact hk_16
              have hk_23 : qk st_35 a_21 = 6 := by rw [(mo_X5_cut a_32 0 _ _ _ hc_36).2.2.1]; exact hk_23
              have hk_34 : qk st_35 a_32 = 8 := by rw [(mo_X5_cut a_32 0 _ _ _ hc_36).2.2.1]; exact hk_34
              refine lv_pop hx hb dX8_set_88 rfl ?_
              refine lv_aload_n hx hb dX8_set_89 rfl (lv_at hl 3 rfl) ?_
              refine q_gp (ci := 10) (C := RX8) (T := TX8) (N := 12) (k := 7) hx hb hts iRX8 hown hK hp hk_1 (by decide) rfl rfl (by decide) rfl (Or.inl (hts (.fieldLink RX8 60 "RecordBench" "fresh" "LRecordBench$Row;") (by decide +kernel))) (fun _ h9 => h9) dX8_set_90 ?_
              refine o_aload hx hb dX8_set_93 (lv_at hl 0 rfl) ?_
              obtain ⟨a_38, ha_39, hf⟩ := ono_some hf
              refine o_at1 ha_39 ?_
              obtain ⟨hk_40, hf⟩ := gd_some hf
              obtain ⟨st_41, hc_42, hf⟩ := bnv_some hf
              refine q_cv hp hA (va_runV (As := [va_rf (Option.map ad r_10)]) (rest := []) ⟨hx, hb, hml, hown, hts⟩ (c_X5_pushKey l dC dI ka ad ct a_38 r_10 _ _ hc_42 _) (cwV 1 hts gq_X8_set_X5_pushKey_152 rfl rfl rfl (by decide +kernel) ⟨Nat.le_of_ble_eq_true rfl, Nat.le_of_ble_eq_true rfl⟩) ⟨PrC.blind _, q_rv7 hK hp hC hk_40, q_pre hp hK hN hZ hC hR hL hA⟩ rfl rfl hl.1 rfl (lv_room (Nat.le_of_ble_eq_true rfl)) dX8_set_95 ⟨Nat.le_of_ble_eq_true rfl, Nat.le_of_ble_eq_true rfl⟩) (fun H locs hp => ?_)
              have hk_1 : qk st_41 h0 = 11 := by rw [(mo_X5_pushKey a_38 r_10 _ _ hc_42).2.2.1]; exact hk_1
              have hk_16 : qk st_41 a_14 = 3 := by rw [(mo_X5_pushKey a_38 r_10 _ _ hc_42).2.2.1]; exact hk_16
              have hk_23 : qk st_41 a_21 = 6 := by rw [(mo_X5_pushKey a_38 r_10 _ _ hc_42).2.2.1]; exact hk_23
              have hk_34 : qk st_41 a_32 = 8 := by rw [(mo_X5_pushKey a_38 r_10 _ _ hc_42).2.2.1]; exact hk_34
              have hk_40 : qk st_41 a_38 = 8 := by rw [(mo_X5_pushKey a_38 r_10 _ _ hc_42).2.2.1]; exact hk_40
              refine lv_aload_n hx hb dX8_set_98 rfl (lv_at hl 3 rfl) ?_
              refine q_gp (ci := 10) (C := RX8) (T := TX8) (N := 12) (k := 7) hx hb hts iRX8 hown hK hp hk_1 (by decide) rfl rfl (by decide) rfl (Or.inl (hts (.fieldLink RX8 60 "RecordBench" "fresh" "LRecordBench$Row;") (by decide +kernel))) (fun _ h9 => h9) dX8_set_99 ?_
              refine lv_lload hx hb dX8_set_102 (lv_at hl 7 rfl) ?_
              obtain ⟨a_44, ha_45, hf⟩ := ono_some hf
              refine o_at1 ha_45 ?_
              obtain ⟨hk_46, hf⟩ := gd_some hf
              obtain ⟨st_47, hc_48, hf⟩ := bnv_some hf
              refine q_cv hp hA (va_runV (As := [.long p3]) (rest := []) ⟨hx, hb, hml, hown, hts⟩ (c_X5_pushNumber l dC dI ka ad ct a_44 p3 _ _ hc_48 _) (cwV 1 hts gq_X8_set_X5_pushNumber_156 rfl rfl rfl (by decide +kernel) ⟨Nat.le_of_ble_eq_true rfl, Nat.le_of_ble_eq_true rfl⟩) ⟨PrC.blind _, q_rv7 hK hp hC hk_46, q_pre hp hK hN hZ hC hR hL hA⟩ rfl rfl hl.1 rfl (lv_room (Nat.le_of_ble_eq_true rfl)) dX8_set_104 ⟨Nat.le_of_ble_eq_true rfl, Nat.le_of_ble_eq_true rfl⟩) (fun H locs hp => ?_)
              have hk_1 : qk st_47 h0 = 11 := by rw [(mo_X5_pushNumber a_44 p3 _ _ hc_48).2.2.1]; exact hk_1
              have hk_16 : qk st_47 a_14 = 3 := by rw [(mo_X5_pushNumber a_44 p3 _ _ hc_48).2.2.1]; exact hk_16
              have hk_23 : qk st_47 a_21 = 6 := by rw [(mo_X5_pushNumber a_44 p3 _ _ hc_48).2.2.1]; exact hk_23
              have hk_34 : qk st_47 a_32 = 8 := by rw [(mo_X5_pushNumber a_44 p3 _ _ hc_48).2.2.1]; exact hk_34
              have hk_40 : qk st_47 a_38 = 8 := by rw [(mo_X5_pushNumber a_44 p3 _ _ hc_48).2.2.1]; exact hk_40
              have hk_46 : qk st_47 a_44 = 8 := by rw [(mo_X5_pushNumber a_44 p3 _ _ hc_48).2.2.1]; exact hk_46
              refine lv_aload_n hx hb dX8_set_107 rfl (lv_at hl 3 rfl) ?_
              refine o_aload hx hb dX8_set_108 (lv_at hl 2 rfl) ?_
              refine o_aload hx hb dX8_set_110 (lv_at hl 1 rfl) ?_
              refine lv_iload_n hx hb dX8_set_112 rfl (lv_at hl 6 rfl) ?_
              refine o_aload hx hb dX8_set_113 (lv_at hl 0 rfl) ?_
              refine o_at ha_15 ?_
              refine q_gi (ci := 2) (C := RX0) (T := TX0) (N := 7) (k := 2) hx hb hts iRX0 hown hK hp hk_16 (by decide) rfl rfl (by decide) rfl (Or.inr ⟨_, va_Nw.use rfl (hN.1 (.fieldLinkNest RX8 109 "RecordBench$Field" "group" "I" "RecordBench") (by decide +kernel))⟩) (fun _ h9 => h9) dX8_set_115 ?_
              obtain ⟨r_52, st_50, hc_51, hf⟩ := bnd_some hf
              refine q_ci hp hA (va_runV (As := [va_rf (Option.map ad r_4), va_rf (Option.map ad r_7), .int p2, .int (qI st_47 a_14 2)]) (rest := []) ⟨hx, hb, hml, hown, hts⟩ (c_X8_settle l dC dI ka ad ct h0 r_4 r_7 p2 (qI st_47 a_14 2) _ _ _ hc_51 _) (cwV 4 hts gq_X8_set_X8_settle_160 rfl rfl rfl (by decide +kernel) ⟨Nat.le_of_ble_eq_true rfl, Nat.le_of_ble_eq_true rfl⟩) ⟨PrC.blind _, q_rv10 hK hp hC hk_1, q_pre hp hK hN hZ hC hR hL hA⟩ rfl rfl hl.1 rfl (lv_room (Nat.le_of_ble_eq_true rfl)) dX8_set_118 ⟨Nat.le_of_ble_eq_true rfl, Nat.le_of_ble_eq_true rfl⟩) (fun H locs hp => ?_)
              have hk_1 : qk st_50 h0 = 11 := by rw [(mo_X8_settle h0 r_4 r_7 p2 (qI st_47 a_14 2) _ _ _ hc_51).2.2.1]; exact hk_1
              have hk_16 : qk st_50 a_14 = 3 := by rw [(mo_X8_settle h0 r_4 r_7 p2 (qI st_47 a_14 2) _ _ _ hc_51).2.2.1]; exact hk_16
              have hk_23 : qk st_50 a_21 = 6 := by rw [(mo_X8_settle h0 r_4 r_7 p2 (qI st_47 a_14 2) _ _ _ hc_51).2.2.1]; exact hk_23
              have hk_34 : qk st_50 a_32 = 8 := by rw [(mo_X8_settle h0 r_4 r_7 p2 (qI st_47 a_14 2) _ _ _ hc_51).2.2.1]; exact hk_34
              have hk_40 : qk st_50 a_38 = 8 := by rw [(mo_X8_settle h0 r_4 r_7 p2 (qI st_47 a_14 2) _ _ _ hc_51).2.2.1]; exact hk_40
              have hk_46 : qk st_50 a_44 = 8 := by rw [(mo_X8_settle h0 r_4 r_7 p2 (qI st_47 a_14 2) _ _ _ hc_51).2.2.1]; exact hk_46
              obtain ⟨e1, e2⟩ := pr_some hf
              exact W.iret (v := r_52) hx hb hr (fun t ht hW => ⟨⟨r_52, (), rfl, e1, Cp.end e2 hp ht⟩, hp.2.1.F ht⟩) hp.2.1.2.2 dX8_set_121
            · have hf := pif_t c_31 hf
              refine lv_bipush (v := (-3)) hx hb dX8_set_77 (by decide) ?_
              obtain ⟨e1, e2⟩ := pr_some hf
              exact W.iret (v := (-3)) hx hb hr (fun t ht hW => ⟨⟨(-3), (), rfl, e1, Cp.end e2 hp ht⟩, hp.2.1.F ht⟩) hp.2.1.2.2 dX8_set_79
          · have hf := pif_t c_27 hf
            refine lv_bipush (v := (-2)) hx hb dX8_set_64 (by decide) ?_
            obtain ⟨e1, e2⟩ := pr_some hf
            exact W.iret (v := (-2)) hx hb hr (fun t ht hW => ⟨⟨(-2), (), rfl, e1, Cp.end e2 hp ht⟩, hp.2.1.F ht⟩) hp.2.1.2.2 dX8_set_66
        · have hf := pif_t c_20 hf
          refine lv_iconst (v := (-1)) hx hb dX8_set_48 (by decide) ?_
          obtain ⟨e1, e2⟩ := pr_some hf
          exact W.iret (v := (-1)) hx hb hr (fun t ht hW => ⟨⟨(-1), (), rfl, e1, Cp.end e2 hp ht⟩, hp.2.1.F ht⟩) hp.2.1.2.2 dX8_set_49
noncomputable def fX8_say_169 (h0 : Nat)  (l7 : Int32) (gs : CS) : Option (Int32 × CS) := gd (qk gs h0 = 11) (ono (qP gs h0 0) (fun a_2 => gd (qk gs a_2 = 8) (bnd (fX5_cut a_2 0 gs) (fun r_7 st_5 => some (l7, st_5)))))
set_option maxHeartbeats 1000000 in
theorem mo_X8_say_169 (h0 : Nat)   (l7 : Int32) (gs : CS) (r : Int32) (st' : CS) (hf : fX8_say_169 h0 l7 gs = some (r, st')) : Ke gs st' := by
  unfold fX8_say_169 at hf
  have hm : Ke gs gs := Ke.rf
  obtain ⟨hk_1, hf⟩ := gd_some hf
  obtain ⟨a_2, ha_3, hf⟩ := ono_some hf
  obtain ⟨hk_4, hf⟩ := gd_some hf
  obtain ⟨r_7, st_5, hc_6, hf⟩ := bnd_some hf
  have hm := hm.tr (mo_X5_cut a_2 0 _ _ _ hc_6)
  obtain ⟨e1, e2⟩ := pr_some hf
  exact e2 ▸ hm
noncomputable def fX8_say_49 (h0 : Nat)  (gs : CS) : Option (Int32 × CS) := fX8_say_169 h0 (-1) gs
set_option maxHeartbeats 1000000 in
theorem mo_X8_say_49 (h0 : Nat)   (gs : CS) (r : Int32) (st' : CS) (hf : fX8_say_49 h0 gs = some (r, st')) : Ke gs st' := by
  unfold fX8_say_49 at hf
  have hm : Ke gs gs := Ke.rf
  exact hm.tr (mo_X8_say_169 h0 (-1) gs _ _ hf)
noncomputable def fX8_say (h0 : Nat) (p0 : Int32) (p1 : Int32) (p2 : Int32) (st : CS) : Option (Int32 × CS) := gd (qk st h0 = 11) (bnd (fX8_recordOf h0 p0 st) (fun r_11 st_9 => bnd (fX8_makeOf (qP st_9 h0 2) p1 st_9) (fun r_14 st_12 => bnd (fX8_fieldOf h0 p1 p2 st_12) (fun r_17 st_15 => pif (r_11 = none) (fX8_say_49 h0 st_15) (pif (r_14 = none) (fX8_say_49 h0 st_15) (pif (r_17 = none) (fX8_say_49 h0 st_15) (ono r_17 (fun a_21 => gd (qk st_15 a_21 = 3) (pif ((qI st_15 a_21 1) = 5) (ono (qP st_15 h0 4) (fun a_25 => gd (qk st_15 a_25 = 6) (bnd (fX3_isSound a_25 r_11 r_14 st_15) (fun r_30 st_28 => pif (r_30 = 0) (fX8_say_169 h0 (-2) st_28) (ono (qP st_28 h0 0) (fun a_32 => gd (qk st_28 a_32 = 8) (bnd (fX5_size a_32 st_28) (fun r_37 st_35 => bnd (fX5_isText a_32 0 r_37 st_35) (fun r_40 st_38 => pif (r_40 = 0) (fX8_say_169 h0 (-3) st_38) (ono (qP st_38 h0 7) (fun a_42 => gd (qk st_38 a_42 = 8) (bnd (fX5_cut a_42 0 st_38) (fun r_47 st_45 => ono (qP st_45 h0 7) (fun a_48 => gd (qk st_45 a_48 = 8) (bnv (fX5_pushKey a_48 r_17 st_45) (fun st_51 => ono (qP st_51 h0 0) (fun a_54 => gd (qk st_51 a_54 = 8) (bnd (fX5_size a_54 st_51) (fun r_59 st_57 => ono (qP st_51 h0 7) (fun a_60 => gd (qk st_57 a_60 = 8) (bnv (fX5_pushVarint a_60 r_59.toInt64 st_57) (fun st_63 => ono (qP st_63 h0 0) (fun a_66 => gd (qk st_63 a_66 = 8) (bnd (fX5_size a_66 st_63) (fun r_71 st_69 => ono (qP st_63 h0 7) (fun a_72 => gd (qk st_69 a_72 = 8) (bnv (fX5_append a_72 (qP st_63 h0 0) 0 r_71 st_69) (fun st_75 => bnd (fX8_settle h0 r_11 r_14 p2 (qI st_75 a_21 2) st_75) (fun r_80 st_78 => fX8_say_169 h0 r_80 st_78))))))))))))))))))))))))))))) (fX8_say_49 h0 st_15))))))))))
set_option maxHeartbeats 1000000 in
theorem mo_X8_say (h0 : Nat) (p0 : Int32) (p1 : Int32) (p2 : Int32) (st : CS) (r : Int32) (st' : CS) (hf : fX8_say h0 p0 p1 p2 st = some (r, st')) : Ke st st' := by
  unfold fX8_say at hf
  have hm : Ke st st := Ke.rf
  obtain ⟨hk_8, hf⟩ := gd_some hf
  obtain ⟨r_11, st_9, hc_10, hf⟩ := bnd_some hf
  have hm := hm.tr (mo_X8_recordOf h0 p0 _ _ _ hc_10)
  obtain ⟨r_14, st_12, hc_13, hf⟩ := bnd_some hf
  have hm := hm.tr (mo_X8_makeOf (qP st_9 h0 2) p1 _ _ _ hc_13)
  obtain ⟨r_17, st_15, hc_16, hf⟩ := bnd_some hf
  have hm := hm.tr (mo_X8_fieldOf h0 p1 p2 _ _ _ hc_16)
  rcases pif_or hf with ⟨c_18, hf⟩ | ⟨c_18, hf⟩
  · exact hm.tr (mo_X8_say_49 h0 st_15 _ _ hf)
  · rcases pif_or hf with ⟨c_19, hf⟩ | ⟨c_19, hf⟩
    · exact hm.tr (mo_X8_say_49 h0 st_15 _ _ hf)
    · rcases pif_or hf with ⟨c_20, hf⟩ | ⟨c_20, hf⟩
      · exact hm.tr (mo_X8_say_49 h0 st_15 _ _ hf)
      · obtain ⟨a_21, ha_22, hf⟩ := ono_some hf
        obtain ⟨hk_23, hf⟩ := gd_some hf
        rcases pif_or hf with ⟨c_24, hf⟩ | ⟨c_24, hf⟩
        · obtain ⟨a_25, ha_26, hf⟩ := ono_some hf
          obtain ⟨hk_27, hf⟩ := gd_some hf
          obtain ⟨r_30, st_28, hc_29, hf⟩ := bnd_some hf
          have hm := hm.tr (mo_X3_isSound a_25 r_11 r_14 _ _ _ hc_29)
          rcases pif_or hf with ⟨c_31, hf⟩ | ⟨c_31, hf⟩
          · exact hm.tr (mo_X8_say_169 h0 (-2) st_28 _ _ hf)
          · obtain ⟨a_32, ha_33, hf⟩ := ono_some hf
            obtain ⟨hk_34, hf⟩ := gd_some hf
            obtain ⟨r_37, st_35, hc_36, hf⟩ := bnd_some hf
            have hm := hm.tr (mo_X5_size a_32 _ _ _ hc_36)
            obtain ⟨r_40, st_38, hc_39, hf⟩ := bnd_some hf
            have hm := hm.tr (mo_X5_isText a_32 0 r_37 _ _ _ hc_39)
            rcases pif_or hf with ⟨c_41, hf⟩ | ⟨c_41, hf⟩
            · exact hm.tr (mo_X8_say_169 h0 (-3) st_38 _ _ hf)
            · obtain ⟨a_42, ha_43, hf⟩ := ono_some hf
              obtain ⟨hk_44, hf⟩ := gd_some hf
              obtain ⟨r_47, st_45, hc_46, hf⟩ := bnd_some hf
              have hm := hm.tr (mo_X5_cut a_42 0 _ _ _ hc_46)
              obtain ⟨a_48, ha_49, hf⟩ := ono_some hf
              obtain ⟨hk_50, hf⟩ := gd_some hf
              obtain ⟨st_51, hc_52, hf⟩ := bnv_some hf
              have hm := hm.tr (mo_X5_pushKey a_48 r_17 _ _ hc_52)
              obtain ⟨a_54, ha_55, hf⟩ := ono_some hf
              obtain ⟨hk_56, hf⟩ := gd_some hf
              obtain ⟨r_59, st_57, hc_58, hf⟩ := bnd_some hf
              have hm := hm.tr (mo_X5_size a_54 _ _ _ hc_58)
              obtain ⟨a_60, ha_61, hf⟩ := ono_some hf
              obtain ⟨hk_62, hf⟩ := gd_some hf
              obtain ⟨st_63, hc_64, hf⟩ := bnv_some hf
              have hm := hm.tr (mo_X5_pushVarint a_60 r_59.toInt64 _ _ hc_64)
              obtain ⟨a_66, ha_67, hf⟩ := ono_some hf
              obtain ⟨hk_68, hf⟩ := gd_some hf
              obtain ⟨r_71, st_69, hc_70, hf⟩ := bnd_some hf
              have hm := hm.tr (mo_X5_size a_66 _ _ _ hc_70)
              obtain ⟨a_72, ha_73, hf⟩ := ono_some hf
              obtain ⟨hk_74, hf⟩ := gd_some hf
              obtain ⟨st_75, hc_76, hf⟩ := bnv_some hf
              have hm := hm.tr (mo_X5_append a_72 (qP st_63 h0 0) 0 r_71 _ _ hc_76)
              obtain ⟨r_80, st_78, hc_79, hf⟩ := bnd_some hf
              have hm := hm.tr (mo_X8_settle h0 r_11 r_14 p2 (qI st_75 a_21 2) _ _ _ hc_79)
              exact hm.tr (mo_X8_say_169 h0 r_80 st_78 _ _ hf)
        · exact hm.tr (mo_X8_say_49 h0 st_15 _ _ hf)
def wq_X8_say : List Cond := .code yX8_say cX8_say 8 (some .int) :: (([.fieldLink RX8 24 "RecordBench" "makes" "[LRecordBench$Make;", .fieldLink RX8 42 "RecordBench" "reader" "LRecordBench$RecordReader;", .fieldLink RX8 14 "RecordBench" "tape" "LRecordBench$Row;", .fieldLink RX8 60 "RecordBench" "fresh" "LRecordBench$Row;", .methodLink RX8 83 yX5_cut, .instanceMethod yX5_cut, .selects RX5 yX5_cut yX5_cut, .initialized RX5, .methodLink RX8 128 yX8_recordOf, .instanceMethod yX8_recordOf, .selects RX8 yX8_recordOf yX8_recordOf, .initialized RX8, .methodLink RX8 136 yX8_makeOf, .static yX8_makeOf, .methodLink RX8 100 yX8_fieldOf, .instanceMethod yX8_fieldOf, .selects RX8 yX8_fieldOf yX8_fieldOf, .methodLink RX8 144 yX3_isSound, .instanceMethod yX3_isSound, .selects RX3 yX3_isSound yX3_isSound, .initialized RX3, .methodLink RX8 76 yX5_size, .instanceMethod yX5_size, .selects RX5 yX5_size yX5_size, .methodLink RX8 164 yX5_isText, .instanceMethod yX5_isText, .selects RX5 yX5_isText yX5_isText, .methodLink RX8 152 yX5_pushKey, .instanceMethod yX5_pushKey, .selects RX5 yX5_pushKey yX5_pushKey, .methodLink RX8 168 yX5_pushVarint, .instanceMethod yX5_pushVarint, .selects RX5 yX5_pushVarint yX5_pushVarint, .methodLink RX8 171 yX5_append, .instanceMethod yX5_append, .selects RX5 yX5_append yX5_append, .methodLink RX8 160 yX8_settle, .instanceMethod yX8_settle, .selects RX8 yX8_settle yX8_settle, .code yX5_cut cX5_cut 2 (some .boolean), .fieldLink RX5 21 "RecordBench$Row" "size" "I", .code yX8_recordOf cX8_recordOf 2 (some (.object "RecordBench$Row")), .fieldLink RX8 18 "RecordBench" "records" "[LRecordBench$Row;", .code yX8_makeOf cX8_makeOf 2 (some (.object "RecordBench$Make")), .code yX8_fieldOf cX8_fieldOf 4 (some (.object "RecordBench$Field")), .methodLink RX8 225 yX1_fieldAt, .instanceMethod yX1_fieldAt, .selects RX1 yX1_fieldAt yX1_fieldAt, .initialized RX1, .code yX1_fieldAt cX1_fieldAt 2 (some (.object "RecordBench$Field")), .fieldLink RX1 11 "RecordBench$Make" "fields" "[LRecordBench$Field;", .code yX3_isSound cX3_isSound 3 (some .boolean), .fieldLink RX3 22 "RecordBench$RecordReader" "fault" "I", .fieldLink RX3 26 "RecordBench$RecordReader" "place" "I", .methodLink RX3 29 yX5_size, .methodLink RX3 35 yX3_scan, .instanceMethod yX3_scan, .selects RX3 yX3_scan yX3_scan, .code yX5_size cX5_size 1 (some .int), .code yX3_scan cX3_scan 13 (some .boolean), .fieldLink RX3 17 "RecordBench$RecordReader" "pieces" "[LRecordBench$Piece;", .methodLink RX3 79 yX3_groupBit, .static yX3_groupBit, .methodLink RX3 43 yX2_look, .instanceMethod yX2_look, .selects RX2 yX2_look yX2_look, .initialized RX2, .methodLink RX3 50 yX1_knownAt, .instanceMethod yX1_knownAt, .selects RX1 yX1_knownAt yX1_knownAt, .methodLink RX3 56 yX3_faultOf, .static yX3_faultOf, .methodLink RX3 60 yX3_isRec, .static yX3_isRec, .fieldLink RX3 9 "RecordBench$RecordReader" "makes" "[LRecordBench$Make;", .methodLink RX3 39 yX3_refuse, .instanceMethod yX3_refuse, .selects RX3 yX3_refuse yX3_refuse, .code yX3_groupBit cX3_groupBit 1 (some .int), .code yX2_look cX2_look 6 none, .fieldLink RX2 9 "RecordBench$Piece" "number" "I", .fieldLink RX2 15 "RecordBench$Piece" "withLength" "Z", .fieldLink RX2 19 "RecordBench$Piece" "raw" "J", .fieldLink RX2 23 "RecordBench$Piece" "body" "I", .fieldLink RX2 26 "RecordBench$Piece" "end" "I", .fieldLink RX2 29 "RecordBench$Piece" "fault" "I", .fieldLink RX2 32 "RecordBench$Piece" "pos" "I", .fieldLink RX2 35 "RecordBench$Piece" "broken" "Z", .methodLink RX2 42 yX2_place, .instanceMethod yX2_place, .selects RX2 yX2_place yX2_place, .methodLink RX2 38 yX2_takeVarint, .instanceMethod yX2_takeVarint, .selects RX2 yX2_takeVarint yX2_takeVarint, .code yX2_place cX2_place 6 none, .constantLong RX2 46 (30), .code yX2_takeVarint cX2_takeVarint 7 (some .long), .constantLong RX2 54 (127), .methodLink RX2 48 yX5_byteAt, .instanceMethod yX5_byteAt, .selects RX5 yX5_byteAt yX5_byteAt, .code yX5_byteAt cX5_byteAt 2 (some .int), .fieldLink RX5 15 "RecordBench$Row" "bytes" "[I", .code yX1_knownAt cX1_knownAt 3 (some (.object "RecordBench$Field")), .methodLink RX1 21 yX1_fieldAt, .code yX3_faultOf cX3_faultOf 5 (some .int), .methodLink RX3 92 yX3_fits, .static yX3_fits, .methodLink RX3 88 yX0_hasLength, .instanceMethod yX0_hasLength, .selects RX0 yX0_hasLength yX0_hasLength, .initialized RX0, .code yX3_fits cX3_fits 3 (some .boolean), .methodLink RX3 96 yX0_isNumber, .instanceMethod yX0_isNumber, .selects RX0 yX0_isNumber yX0_isNumber, .methodLink RX3 110 yX5_isText, .methodLink RX3 99 yX2_asNumber, .instanceMethod yX2_asNumber, .selects RX2 yX2_asNumber yX2_asNumber, .methodLink RX3 103 yX0_holds, .instanceMethod yX0_holds, .selects RX0 yX0_holds yX0_holds, .code yX0_isNumber cX0_isNumber 1 (some .boolean), .fieldLink RX0 15 "RecordBench$Field" "kind" "I", .code yX5_isText cX5_isText 4 (some .boolean), .methodLink RX5 48 yX5_byteAt, .methodLink RX5 52 yX5_isTextByte, .static yX5_isTextByte, .code yX5_isTextByte cX5_isTextByte 1 (some .boolean), .code yX2_asNumber cX2_asNumber 1 (some .long), .code yX0_holds cX0_holds 3 (some .boolean), .constantLong RX0 37 (-128), .constantLong RX0 39 (127), .constantLong RX0 41 (-2147483648), .constantLong RX0 43 (2147483647), .code yX0_hasLength cX0_hasLength 1 (some .boolean), .code yX3_isRec cX3_isRec 1 (some .boolean), .code yX3_refuse cX3_refuse 3 (some .boolean), .code yX5_pushKey cX5_pushKey 2 none, .constantLong RX5 37 (2), .methodLink RX5 33 yX5_pushVarint, .methodLink RX5 44 yX0_hasLength, .code yX5_pushVarint cX5_pushVarint 6 none, .constantLong RX5 29 (-128), .constantLong RX5 31 (127), .methodLink RX5 25 yX5_push, .instanceMethod yX5_push, .selects RX5 yX5_push yX5_push, .code yX5_push cX5_push 2 none, .code yX5_append cX5_append 5 none, .code yX8_settle cX8_settle 5 (some .int), .fieldLink RX8 49 "RecordBench" "writer" "LRecordBench$RecordWriter;", .fieldLink RX8 63 "RecordBench" "work" "LRecordBench$Row;", .methodLink RX8 221 yX4_rewriteWith, .instanceMethod yX4_rewriteWith, .selects RX4 yX4_rewriteWith yX4_rewriteWith, .initialized RX4, .methodLink RX8 132 yX5_become, .instanceMethod yX5_become, .selects RX5 yX5_become yX5_become, .code yX4_rewriteWith cX4_rewriteWith 13 none, .fieldLink RX4 17 "RecordBench$RecordWriter" "pieces" "[LRecordBench$Piece;", .methodLink RX4 39 yX5_size, .methodLink RX4 51 yX5_append, .methodLink RX4 66 yX4_copyPiece, .instanceMethod yX4_copyPiece, .selects RX4 yX4_copyPiece yX4_copyPiece, .methodLink RX4 54 yX1_knownAt, .methodLink RX4 43 yX2_look, .methodLink RX4 35 yX5_cut, .code yX4_copyPiece cX4_copyPiece 8 none, .fieldLink RX4 9 "RecordBench$RecordWriter" "makes" "[LRecordBench$Make;", .methodLink RX4 73 yX5_pushKey, .methodLink RX4 77 yX0_isNumber, .methodLink RX4 102 yX5_push, .methodLink RX4 112 yX4_copyAll, .instanceMethod yX4_copyAll, .selects RX4 yX4_copyAll yX4_copyAll, .methodLink RX4 116 yX5_replace, .instanceMethod yX5_replace, .selects RX5 yX5_replace yX5_replace, .methodLink RX4 96 yX5_pushVarint, .methodLink RX4 81 yX2_asNumber, .methodLink RX4 85 yX5_pushNumber, .instanceMethod yX5_pushNumber, .selects RX5 yX5_pushNumber yX5_pushNumber, .code yX4_copyAll cX4_copyAll 10 none, .code yX5_replace cX5_replace 3 none, .code yX5_pushNumber cX5_pushNumber 3 none, .code yX5_become cX5_become 6 none] : List Cond) ++ wsX80 ++ wsX00 ++ wsX50 ++ wsX10 ++ wsX30 ++ wsX20 ++ wsX40)
theorem gs_wq_X8_say_wsX50 : GoodIn wq_X8_say wsX50 := fun w h => ⟨List.mem_cons_of_mem _ (List.mem_append_left _ (List.mem_append_left _ (List.mem_append_left _ (List.mem_append_left _ (List.mem_append_right _ h))))), (gt_wsX50 w h).2⟩
set_option maxRecDepth 20000 in
theorem gq_X8_say_X5_cut_83 : GoodIn wq_X8_say (wsV RX8 83 RX5 yX5_cut wq_X5_cut) := goodIn_app (goodIn_r _ [5, 6, 7, 8] rfl rfl) (goodIn_ca (goodIn_r _ [40, 41] rfl rfl) gs_wq_X8_say_wsX50)
theorem gs_wq_X8_say_wsX80 : GoodIn wq_X8_say wsX80 := fun w h => ⟨List.mem_cons_of_mem _ (List.mem_append_left _ (List.mem_append_left _ (List.mem_append_left _ (List.mem_append_left _ (List.mem_append_left _ (List.mem_append_left _ (List.mem_append_right _ h))))))), (gt_wsX80 w h).2⟩
set_option maxRecDepth 20000 in
theorem gq_X8_say_X8_recordOf_128 : GoodIn wq_X8_say (wsV RX8 128 RX8 yX8_recordOf wq_X8_recordOf) := goodIn_app (goodIn_r _ [9, 10, 11, 12] rfl rfl) (goodIn_ca (goodIn_r _ [42, 43] rfl rfl) gs_wq_X8_say_wsX80)
set_option maxRecDepth 20000 in
theorem gq_X8_say_X8_makeOf_136 : GoodIn wq_X8_say (va_wsS RX8 136 yX8_makeOf wq_X8_makeOf) := goodIn_app (goodIn_r _ [13, 14, 12] rfl rfl) (goodIn_r _ [44] rfl rfl)
theorem gs_wq_X8_say_wsX10 : GoodIn wq_X8_say wsX10 := fun w h => ⟨List.mem_cons_of_mem _ (List.mem_append_left _ (List.mem_append_left _ (List.mem_append_left _ (List.mem_append_right _ h)))), (gt_wsX10 w h).2⟩
set_option maxRecDepth 20000 in
theorem gq_X8_say_X8_fieldOf_100 : GoodIn wq_X8_say (wsV RX8 100 RX8 yX8_fieldOf wq_X8_fieldOf) := goodIn_app (goodIn_r _ [15, 16, 17, 12] rfl rfl) (goodIn_ca (goodIn_ca (goodIn_r _ [45, 1, 13, 14, 12, 46, 47, 48, 49, 44, 50, 51] rfl rfl) gs_wq_X8_say_wsX80) gs_wq_X8_say_wsX10)
theorem gs_wq_X8_say_wsX30 : GoodIn wq_X8_say wsX30 := fun w h => ⟨List.mem_cons_of_mem _ (List.mem_append_left _ (List.mem_append_left _ (List.mem_append_right _ h))), (gt_wsX30 w h).2⟩
theorem gs_wq_X8_say_wsX20 : GoodIn wq_X8_say wsX20 := fun w h => ⟨List.mem_cons_of_mem _ (List.mem_append_left _ (List.mem_append_right _ h)), (gt_wsX20 w h).2⟩
theorem gs_wq_X8_say_wsX00 : GoodIn wq_X8_say wsX00 := fun w h => ⟨List.mem_cons_of_mem _ (List.mem_append_left _ (List.mem_append_left _ (List.mem_append_left _ (List.mem_append_left _ (List.mem_append_left _ (List.mem_append_right _ h)))))), (gt_wsX00 w h).2⟩
set_option maxRecDepth 20000 in
theorem gq_X8_say_X3_isSound_144 : GoodIn wq_X8_say (wsV RX8 144 RX3 yX3_isSound wq_X3_isSound) := goodIn_app (goodIn_r _ [18, 19, 20, 21] rfl rfl) (goodIn_ca (goodIn_ca (goodIn_ca (goodIn_ca (goodIn_ca (goodIn_r _ [52, 53, 54, 55, 23, 24, 8, 56, 57, 58, 21, 59, 41, 60, 61, 62, 63, 64, 65, 66, 67, 68, 69, 70, 49, 71, 72, 73, 74, 75, 14, 12, 76, 77, 78, 79, 80, 81, 82, 83, 84, 85, 86, 87, 88, 89, 90, 91, 92, 93, 94, 95, 96, 97, 98, 99, 100, 101, 102, 103, 104, 105, 47, 48, 50, 51, 106, 107, 108, 109, 110, 111, 112, 113, 114, 115, 116, 117, 26, 27, 118, 119, 120, 121, 122, 123, 124, 125, 126, 127, 128, 129, 130, 131, 132, 133, 134, 135, 136, 137, 138, 44, 139] rfl rfl) gs_wq_X8_say_wsX30) gs_wq_X8_say_wsX50) gs_wq_X8_say_wsX20) gs_wq_X8_say_wsX00) gs_wq_X8_say_wsX10)
set_option maxRecDepth 20000 in
theorem gq_X8_say_X5_size_76 : GoodIn wq_X8_say (wsV RX8 76 RX5 yX5_size wq_X5_size) := goodIn_app (goodIn_r _ [22, 23, 24, 8] rfl rfl) (goodIn_ca (goodIn_r _ [59, 41] rfl rfl) gs_wq_X8_say_wsX50)
set_option maxRecDepth 20000 in
theorem gq_X8_say_X5_isText_164 : GoodIn wq_X8_say (wsV RX8 164 RX5 yX5_isText wq_X5_isText) := goodIn_app (goodIn_r _ [25, 26, 27, 8] rfl rfl) (goodIn_ca (goodIn_r _ [126, 127, 100, 101, 8, 128, 129, 102, 41, 103, 130] rfl rfl) gs_wq_X8_say_wsX50)
set_option maxRecDepth 20000 in
theorem gq_X8_say_X5_pushKey_152 : GoodIn wq_X8_say (wsV RX8 152 RX5 yX5_pushKey wq_X5_pushKey) := goodIn_app (goodIn_r _ [28, 29, 30, 8] rfl rfl) (goodIn_ca (goodIn_ca (goodIn_r _ [140, 141, 142, 32, 33, 8, 143, 110, 111, 112, 144, 145, 146, 147, 148, 149, 150, 41, 103, 137, 125] rfl rfl) gs_wq_X8_say_wsX00) gs_wq_X8_say_wsX50)
set_option maxRecDepth 20000 in
theorem gq_X8_say_X5_pushVarint_168 : GoodIn wq_X8_say (wsV RX8 168 RX5 yX5_pushVarint wq_X5_pushVarint) := goodIn_app (goodIn_r _ [31, 32, 33, 8] rfl rfl) (goodIn_ca (goodIn_r _ [144, 145, 146, 147, 148, 149, 8, 150, 41, 103] rfl rfl) gs_wq_X8_say_wsX50)
set_option maxRecDepth 20000 in
theorem gq_X8_say_X5_append_171 : GoodIn wq_X8_say (wsV RX8 171 RX5 yX5_append wq_X5_append) := goodIn_app (goodIn_r _ [34, 35, 36, 8] rfl rfl) (goodIn_ca (goodIn_r _ [151, 127, 100, 101, 8, 147, 148, 149, 102, 41, 103, 150] rfl rfl) gs_wq_X8_say_wsX50)
theorem gs_wq_X8_say_wsX40 : GoodIn wq_X8_say wsX40 := fun w h => ⟨List.mem_cons_of_mem _ (List.mem_append_right _ h), (gt_wsX40 w h).2⟩
set_option maxRecDepth 20000 in
theorem gq_X8_say_X8_settle_160 : GoodIn wq_X8_say (wsV RX8 160 RX8 yX8_settle wq_X8_settle) := goodIn_app (goodIn_r _ [37, 38, 39, 12] rfl rfl) (goodIn_ca (goodIn_ca (goodIn_ca (goodIn_ca (goodIn_ca (goodIn_ca (goodIn_r _ [152, 153, 4, 154, 155, 156, 157, 158, 22, 23, 24, 8, 159, 160, 161, 162, 163, 164, 165, 35, 36, 166, 167, 168, 169, 69, 70, 49, 170, 65, 66, 67, 171, 6, 7, 59, 41, 151, 127, 100, 101, 147, 148, 149, 102, 103, 150, 172, 173, 174, 29, 30, 175, 115, 116, 112, 176, 14, 12, 177, 178, 179, 180, 181, 182, 183, 32, 33, 184, 119, 120, 185, 186, 187, 140, 141, 142, 143, 110, 111, 144, 145, 146, 137, 125, 124, 44, 188, 80, 81, 82, 83, 84, 85, 86, 87, 88, 89, 90, 91, 92, 93, 94, 95, 96, 97, 98, 99, 104, 105, 47, 48, 50, 51, 189, 131, 190, 40, 191] rfl rfl) gs_wq_X8_say_wsX80) gs_wq_X8_say_wsX40) gs_wq_X8_say_wsX20) gs_wq_X8_say_wsX00) gs_wq_X8_say_wsX50) gs_wq_X8_say_wsX10)
set_option maxHeartbeats 4000000 in
set_option maxRecDepth 100000 in
theorem c_X8_say (l : Launch) (dC : Nat → ClassId) (dI : Nat → Nat → Nat) (ka ad : Nat → Nat) (ct : Nat → ClassId) (h0 : Nat) (p0 : Int32) (p1 : Int32) (p2 : Int32) (st st' : CS) (r : Int32) (hf : fX8_say h0 p0 p1 p2 st = some (r, st')) (sz : Nat) : Met l yX8_say wq_X8_say ({ frames := 54, cells := 0, slots := 0, locals := 1507 }) (va_Pc [.ref (ad h0), .int p0, .int p1, .int p2] (PrC (dC, dI) ct ka ad st sz)) (va_Qi (fun r' (_ : Unit) => r' = r) (fun _ => CB (dC, dI) ct ka ad st' (aC ad st sz)) (aC ad st sz)) 0 0 (aC ad st sz) := by
  refine Met.ofW (cc := cX8_say) (maxL := 8) (ret := (some .int)) (by decide) rfl ?_
  intro p e s m args below meth c s₁ B hml hv
  obtain ⟨rfl, hsz, hw0, hK, hN, hZ, hC, hR, hL, hw1, hw2⟩ := hv
  have hx := B.exec
  have hb := B.bytes
  have hr := B.returns
  have hts := atoms_spec (ws := wq_X8_say) B.pre
  have hown : s.vm.findClass RX8 = some m.cls := findClass_of_methodNamed B.named
  have iRX8 : ∀ w ∈ u_ws RX8 TX8 12, w ∈ wq_X8_say := fun w h => List.mem_cons_of_mem _ (List.mem_append_left _ (List.mem_append_left _ (List.mem_append_left _ (List.mem_append_left _ (List.mem_append_left _ (List.mem_append_left _ (List.mem_append_right _ h)))))))
  have iRX0 : ∀ w ∈ u_ws RX0 TX0 7, w ∈ wq_X8_say := fun w h => List.mem_cons_of_mem _ (List.mem_append_left _ (List.mem_append_left _ (List.mem_append_left _ (List.mem_append_left _ (List.mem_append_left _ (List.mem_append_right _ h))))))
  subst hsz
  have hp : Cp (dC, dI) ka ad ct (aC ad st s.heap.size) s.heap st s.heap [] := ⟨fun i a b => ⟨hw0 i a b, Or.inl ⟨i, a, b, rfl⟩⟩, va_S.rf, hw1, hw2⟩
  generalize hAe : aC ad st s.heap.size = A at hp hZ hC ⊢
  have hA : ∀ q : Nat, s.heap.size ≤ q → A q := fun q h => by rw [← hAe]; exact Or.inr h
  have hl := lv_entry ([.ref (ad h0), .int p0, .int p1, .int p2]) (n := 8) (Nat.le_of_ble_eq_true rfl)
  rw [lg_entry_eq]
  generalize (lg_sl ([.ref (ad h0), .int p0, .int p1, .int p2]) ++ List.replicate (8 - (lg_sl ([.ref (ad h0), .int p0, .int p1, .int p2])).length) Slot.unset).toArray = ls at hl ⊢
  have hl : lv_has ls 8 [(0, .ref (ad h0)), (1, .int p0), (2, .int p1), (3, .int p2)] := hl
  refine W_blk (fun (u : Int32 × CS) H locs ls => match u with | (l7, gs) => fX8_say_169 h0 l7 gs = some (r, st') ∧ Cp (dC, dI) ka ad ct A s.heap gs H locs ∧ lv_has ls 8 [(0, .ref (ad h0)), (7, .int l7)]) (fun (u : Int32 × CS) ls => match u with | (l7, gs) => F0 m 169 ls []) ?_ (fun J169 => ?_)
  · intro u H locs ls hu
    obtain ⟨l7, gs⟩ := u
    obtain ⟨hf, hp, hl⟩ := hu
    show W p l e _ s m _ below meth c _ _ _ _ _ (F0 m 169 ls [])
    unfold fX8_say_169 at hf
    refine lv_aload_n hx hb dX8_say_169 rfl (lv_at hl 0 rfl) ?_
    obtain ⟨hk_1, hf⟩ := gd_some hf
    refine q_gp (ci := 10) (C := RX8) (T := TX8) (N := 12) (k := 0) hx hb hts iRX8 hown hK hp hk_1 (by decide) rfl rfl (by decide) rfl (Or.inl (hts (.fieldLink RX8 14 "RecordBench" "tape" "LRecordBench$Row;") (by decide +kernel))) (fun _ h9 => h9) dX8_say_170 ?_
    refine lv_iconst (v := 0) hx hb dX8_say_173 (by decide) ?_
    obtain ⟨a_2, ha_3, hf⟩ := ono_some hf
    refine o_at1 ha_3 ?_
    obtain ⟨hk_4, hf⟩ := gd_some hf
    obtain ⟨r_7, st_5, hc_6, hf⟩ := bnd_some hf
    refine q_ci hp hA (va_runV (As := [.int 0]) (rest := []) ⟨hx, hb, hml, hown, hts⟩ (c_X5_cut l dC dI ka ad ct a_2 0 _ _ _ hc_6 _) (cwV 1 hts gq_X8_say_X5_cut_83 rfl rfl rfl (by decide +kernel) ⟨Nat.le_of_ble_eq_true rfl, Nat.le_of_ble_eq_true rfl⟩) ⟨PrC.blind _, q_rv7 hK hp hC hk_4, q_pre hp hK hN hZ hC hR hL hA⟩ rfl rfl hl.1 rfl (lv_room (Nat.le_of_ble_eq_true rfl)) dX8_say_174 ⟨Nat.le_of_ble_eq_true rfl, Nat.le_of_ble_eq_true rfl⟩) (fun H locs hp => ?_)
    have hk_1 : qk st_5 h0 = 11 := by rw [(mo_X5_cut a_2 0 _ _ _ hc_6).2.2.1]; exact hk_1
    have hk_4 : qk st_5 a_2 = 8 := by rw [(mo_X5_cut a_2 0 _ _ _ hc_6).2.2.1]; exact hk_4
    refine lv_pop hx hb dX8_say_177 rfl ?_
    refine lv_iload hx hb dX8_say_178 (lv_at hl 1 rfl) ?_
    obtain ⟨e1, e2⟩ := pr_some hf
    exact W.iret (v := l7) hx hb hr (fun t ht hW => ⟨⟨l7, (), rfl, e1, Cp.end e2 hp ht⟩, hp.2.1.F ht⟩) hp.2.1.2.2 dX8_say_180
  refine W_blk (fun (gs : CS) H locs ls => fX8_say_49 h0 gs = some (r, st') ∧ Cp (dC, dI) ka ad ct A s.heap gs H locs ∧ lv_has ls 8 [(0, .ref (ad h0))]) (fun (gs : CS) ls => F0 m 49 ls []) ?_ (fun J49 => ?_)
  · intro u H locs ls hu
    obtain ⟨gs, rfl⟩ : ∃ z, z = u := ⟨_, rfl⟩
    obtain ⟨hf, hp, hl⟩ := hu
    show W p l e _ s m _ below meth c _ _ _ _ _ (F0 m 49 ls [])
    unfold fX8_say_49 at hf
    refine lv_iconst (v := (-1)) hx hb dX8_say_49 (by decide) ?_
    refine lv_istore (i := 7) (lv' := [(7, .int ((-1))), (0, .ref (ad h0))]) hx hb dX8_say_50 hl (by decide) rfl (fun ls hl => ?_)
    refine lv_goto (tgt := 169) hx hb dX8_say_52 (by decide) ?_
    exact J169 ((-1), gs) _ _ _ ⟨hf, hp, (lv_sub hl [1, 0] rfl)⟩
  unfold fX8_say at hf
  refine lv_aload_n hx hb dX8_say_0 rfl (lv_at hl 0 rfl) ?_
  refine lv_iload_n hx hb dX8_say_1 rfl (lv_at hl 1 rfl) ?_
  obtain ⟨hk_8, hf⟩ := gd_some hf
  obtain ⟨r_11, st_9, hc_10, hf⟩ := bnd_some hf
  refine q_cq hp hA (va_runV (As := [.int p0]) (rest := []) ⟨hx, hb, hml, hown, hts⟩ (c_X8_recordOf l dC dI ka ad ct h0 p0 _ _ _ hc_10 _) (cwV 1 hts gq_X8_say_X8_recordOf_128 rfl rfl rfl (by decide +kernel) ⟨Nat.le_of_ble_eq_true rfl, Nat.le_of_ble_eq_true rfl⟩) ⟨PrC.blind _, q_rv10 hK hp hC hk_8, q_pre hp hK hN hZ hC hR hL hA⟩ rfl rfl hl.1 rfl (lv_room (Nat.le_of_ble_eq_true rfl)) dX8_say_2 ⟨Nat.le_of_ble_eq_true rfl, Nat.le_of_ble_eq_true rfl⟩) (fun H locs hp => ?_)
  have hk_8 : qk st_9 h0 = 11 := by rw [(mo_X8_recordOf h0 p0 _ _ _ hc_10).2.2.1]; exact hk_8
  refine o_astore (i := 4) (lv' := [(4, va_rf (Option.map ad r_11)), (0, .ref (ad h0)), (1, .int p0), (2, .int p1), (3, .int p2)]) hx hb dX8_say_5 hl (by decide) rfl (fun ls hl => ?_)
  refine lv_aload_n hx hb dX8_say_7 rfl (lv_at hl 1 rfl) ?_
  refine q_gp (ci := 10) (C := RX8) (T := TX8) (N := 12) (k := 2) hx hb hts iRX8 hown hK hp hk_8 (by decide) rfl rfl (by decide) rfl (Or.inl (hts (.fieldLink RX8 24 "RecordBench" "makes" "[LRecordBench$Make;") (by decide +kernel))) (fun _ h9 => h9) dX8_say_8 ?_
  refine lv_iload_n hx hb dX8_say_11 rfl (lv_at hl 3 rfl) ?_
  obtain ⟨r_14, st_12, hc_13, hf⟩ := bnd_some hf
  refine q_cq hp hA (va_runS (As := [va_rf (Option.map ad (qP st_9 h0 2)), .int p1]) (rest := []) ⟨hx, hb, hml, hown, hts⟩ (c_X8_makeOf l dC dI ka ad ct (qP st_9 h0 2) p1 _ _ _ hc_13 _) (va_cwS 2 hts gq_X8_say_X8_makeOf_136 rfl rfl rfl (by decide +kernel) ⟨Nat.le_of_ble_eq_true rfl, Nat.le_of_ble_eq_true rfl⟩) ⟨PrC.blind _, q_pre hp hK hN hZ hC hR hL hA⟩ rfl rfl hl.1 rfl (lv_room (Nat.le_of_ble_eq_true rfl)) dX8_say_12 ⟨Nat.le_of_ble_eq_true rfl, Nat.le_of_ble_eq_true rfl⟩) (fun H locs hp => ?_)
  have hk_8 : qk st_12 h0 = 11 := by rw [(mo_X8_makeOf (qP st_9 h0 2) p1 _ _ _ hc_13).2.2.1]; exact hk_8
  refine o_astore (i := 5) (lv' := [(5, va_rf (Option.map ad r_14)), (4, va_rf (Option.map ad r_11)), (0, .ref (ad h0)), (1, .int p0), (2, .int p1), (3, .int p2)]) hx hb dX8_say_15 hl (by decide) (by simp [rf_cat, vc_i, vc_l, vc_r, vc_n]) (fun ls hl => ?_)
  refine lv_aload_n hx hb dX8_say_17 rfl (lv_at hl 2 rfl) ?_
  refine lv_iload_n hx hb dX8_say_18 rfl (lv_at hl 4 rfl) ?_
  refine lv_iload_n hx hb dX8_say_19 rfl (lv_at hl 5 rfl) ?_
  obtain ⟨r_17, st_15, hc_16, hf⟩ := bnd_some hf
  refine q_cq hp hA (va_runV (As := [.int p1, .int p2]) (rest := []) ⟨hx, hb, hml, hown, hts⟩ (c_X8_fieldOf l dC dI ka ad ct h0 p1 p2 _ _ _ hc_16 _) (cwV 2 hts gq_X8_say_X8_fieldOf_100 rfl rfl rfl (by decide +kernel) ⟨Nat.le_of_ble_eq_true rfl, Nat.le_of_ble_eq_true rfl⟩) ⟨PrC.blind _, q_rv10 hK hp hC hk_8, q_pre hp hK hN hZ hC hR hL hA⟩ rfl rfl hl.1 rfl (lv_room (Nat.le_of_ble_eq_true rfl)) dX8_say_20 ⟨Nat.le_of_ble_eq_true rfl, Nat.le_of_ble_eq_true rfl⟩) (fun H locs hp => ?_)
  have hk_8 : qk st_15 h0 = 11 := by rw [(mo_X8_fieldOf h0 p1 p2 _ _ _ hc_16).2.2.1]; exact hk_8
  refine o_astore (i := 6) (lv' := [(6, va_rf (Option.map ad r_17)), (5, va_rf (Option.map ad r_14)), (4, va_rf (Option.map ad r_11)), (0, .ref (ad h0)), (1, .int p0), (2, .int p1), (3, .int p2)]) hx hb dX8_say_23 hl (by decide) (by simp [rf_cat, vc_i, vc_l, vc_r, vc_n]) (fun ls hl => ?_)
  refine o_aload hx hb dX8_say_25 (lv_at hl 2 rfl) ?_
  refine o_ifnull (tgt := 49) hx hb dX8_say_27 (by decide) (fun c_18 => ?_) (fun c_18 => ?_)
  · have hf := pif_t c_18 hf
    exact J49 st_15 _ _ _ ⟨hf, hp, (lv_sub hl [3] rfl)⟩
  · have hf := pif_f c_18 hf
    refine o_aload hx hb dX8_say_30 (lv_at hl 1 rfl) ?_
    refine o_ifnull (tgt := 49) hx hb dX8_say_32 (by decide) (fun c_19 => ?_) (fun c_19 => ?_)
    · have hf := pif_t c_19 hf
      exact J49 st_15 _ _ _ ⟨hf, hp, (lv_sub hl [3] rfl)⟩
    · have hf := pif_f c_19 hf
      refine o_aload hx hb dX8_say_35 (lv_at hl 0 rfl) ?_
      refine o_ifnull (tgt := 49) hx hb dX8_say_37 (by decide) (fun c_20 => ?_) (fun c_20 => ?_)
      · have hf := pif_t c_20 hf
        exact J49 st_15 _ _ _ ⟨hf, hp, (lv_sub hl [3] rfl)⟩
      · have hf := pif_f c_20 hf
        refine o_aload hx hb dX8_say_40 (lv_at hl 0 rfl) ?_
        obtain ⟨a_21, ha_22, hf⟩ := ono_some hf
        refine o_at ha_22 ?_
        obtain ⟨hk_23, hf⟩ := gd_some hf
        refine q_gi (ci := 2) (C := RX0) (T := TX0) (N := 7) (k := 1) hx hb hts iRX0 hown hK hp hk_23 (by decide) rfl rfl (by decide) rfl (Or.inr ⟨_, va_Nw.use rfl (hN.1 (.fieldLinkNest RX8 104 "RecordBench$Field" "kind" "I" "RecordBench") (by decide +kernel))⟩) (fun _ h9 => h9) dX8_say_42 ?_
        refine lv_iconst (v := 5) hx hb dX8_say_45 (by decide) ?_
        refine lv_icmp_eq (tgt := 55) hx hb dX8_say_46 (by decide) (fun c_24 => ?_) (fun c_24 => ?_)
        · have hf := pif_t c_24 hf
          refine lv_aload_n hx hb dX8_say_55 rfl (lv_at hl 3 rfl) ?_
          refine q_gp (ci := 10) (C := RX8) (T := TX8) (N := 12) (k := 4) hx hb hts iRX8 hown hK hp hk_8 (by decide) rfl rfl (by decide) rfl (Or.inl (hts (.fieldLink RX8 42 "RecordBench" "reader" "LRecordBench$RecordReader;") (by decide +kernel))) (fun _ h9 => h9) dX8_say_56 ?_
          refine o_aload hx hb dX8_say_59 (lv_at hl 2 rfl) ?_
          refine o_aload hx hb dX8_say_61 (lv_at hl 1 rfl) ?_
          obtain ⟨a_25, ha_26, hf⟩ := ono_some hf
          refine o_at2 ha_26 ?_
          obtain ⟨hk_27, hf⟩ := gd_some hf
          obtain ⟨r_30, st_28, hc_29, hf⟩ := bnd_some hf
          refine q_ci hp hA (va_runV (As := [va_rf (Option.map ad r_11), va_rf (Option.map ad r_14)]) (rest := []) ⟨hx, hb, hml, hown, hts⟩ (c_X3_isSound l dC dI ka ad ct a_25 r_11 r_14 _ _ _ hc_29 _) (cwV 2 hts gq_X8_say_X3_isSound_144 rfl rfl rfl (by decide +kernel) ⟨Nat.le_of_ble_eq_true rfl, Nat.le_of_ble_eq_true rfl⟩) ⟨PrC.blind _, q_rv5 hK hp hC hk_27, q_pre hp hK hN hZ hC hR hL hA⟩ rfl rfl hl.1 rfl (lv_room (Nat.le_of_ble_eq_true rfl)) dX8_say_63 ⟨Nat.le_of_ble_eq_true rfl, Nat.le_of_ble_eq_true rfl⟩) (fun H locs hp => ?_)
          have hk_8 : qk st_28 h0 = 11 := by rw [(mo_X3_isSound a_25 r_11 r_14 _ _ _ hc_29).2.2.1]; exact hk_8
          have hk_23 : qk st_28 a_21 = 3 := by rw [(mo_X3_isSound a_25 r_11 r_14 _ _ _ hc_29).2.2.1]; exact hk_23
          have hk_27 : qk st_28 a_25 = 6 := by rw [(mo_X3_isSound a_25 r_11 r_14 _ _ _ hc_29).2.2.1]; exact hk_27
          refine lv_if_ne (tgt := 76) hx hb dX8_say_66 (by decide) (fun c_31 => ?_) (fun c_31 => ?_)
          · have hf := pif_f c_31 hf
            refine lv_aload_n hx hb dX8_say_76 rfl (lv_at hl 3 rfl) ?_
            refine q_gp (ci := 10) (C := RX8) (T := TX8) (N := 12) (k := 0) hx hb hts iRX8 hown hK hp hk_8 (by decide) rfl rfl (by decide) rfl (Or.inl (hts (.fieldLink RX8 14 "RecordBench" "tape" "LRecordBench$Row;") (by decide +kernel))) (fun _ h9 => h9) dX8_say_77 ?_
            refine lv_iconst (v := 0) hx hb dX8_say_80 (by decide) ?_
            refine lv_aload_n hx hb dX8_say_81 rfl (lv_at hl 3 rfl) ?_
            refine q_gp (ci := 10) (C := RX8) (T := TX8) (N := 12) (k := 0) hx hb hts iRX8 hown hK hp hk_8 (by decide) rfl rfl (by decide) rfl (Or.inl (hts (.fieldLink RX8 14 "RecordBench" "tape" "LRecordBench$Row;") (by decide +kernel))) (fun _ h9 => h9) dX8_say_82 ?_
            obtain ⟨a_32, ha_33, hf⟩ := ono_some hf
            refine o_at ha_33 ?_
            obtain ⟨hk_34, hf⟩ := gd_some hf
            obtain ⟨r_37, st_35, hc_36, hf⟩ := bnd_some hf
            refine q_ci hp hA (va_runV (As := []) (rest := [.int 0, va_rf (Option.map ad (qP st_28 h0 0))]) ⟨hx, hb, hml, hown, hts⟩ (c_X5_size l dC dI ka ad ct a_32 _ _ _ hc_36 _) (cwV 0 hts gq_X8_say_X5_size_76 rfl rfl rfl (by decide +kernel) ⟨Nat.le_of_ble_eq_true rfl, Nat.le_of_ble_eq_true rfl⟩) ⟨PrC.blind _, q_rv7 hK hp hC hk_34, q_pre hp hK hN hZ hC hR hL hA⟩ rfl rfl hl.1 rfl (lv_room (by simp [rf_cat, vc_i, vc_l, vc_r, vc_n])) dX8_say_85 ⟨Nat.le_of_ble_eq_true rfl, Nat.le_of_ble_eq_true rfl⟩) (fun H locs hp => ?_)
            have hk_8 : qk st_35 h0 = 11 := by rw [(mo_X5_size a_32 _ _ _ hc_36).2.2.1]; exact hk_8
            have hk_23 : qk st_35 a_21 = 3 := by rw [(mo_X5_size a_32 _ _ _ hc_36).2.2.1]; exact hk_23
            have hk_27 : qk st_35 a_25 = 6 := by rw [(mo_X5_size a_32 _ _ _ hc_36).2.2.1]; exact hk_27
            have hk_34 : qk st_35 a_32 = 8 := by rw [(mo_X5_size a_32 _ _ _ hc_36).2.2.1]; exact hk_34
            refine o_at2 ha_33 ?_
            obtain ⟨r_40, st_38, hc_39, hf⟩ := bnd_some hf
            refine q_ci hp hA (va_runV (As := [.int 0, .int r_37]) (rest := []) ⟨hx, hb, hml, hown, hts⟩ (c_X5_isText l dC dI ka ad ct a_32 0 r_37 _ _ _ hc_39 _) (cwV 2 hts gq_X8_say_X5_isText_164 rfl rfl rfl (by decide +kernel) ⟨Nat.le_of_ble_eq_true rfl, Nat.le_of_ble_eq_true rfl⟩) ⟨PrC.blind _, q_rv7 hK hp hC hk_34, q_pre hp hK hN hZ hC hR hL hA⟩ rfl rfl hl.1 rfl (lv_room (Nat.le_of_ble_eq_true rfl)) dX8_say_88 ⟨Nat.le_of_ble_eq_true rfl, Nat.le_of_ble_eq_true rfl⟩) (fun H locs hp => ?_)
            have hk_8 : qk st_38 h0 = 11 := by rw [(mo_X5_isText a_32 0 r_37 _ _ _ hc_39).2.2.1]; exact hk_8
            have hk_23 : qk st_38 a_21 = 3 := by rw [(mo_X5_isText a_32 0 r_37 _ _ _ hc_39).2.2.1]; exact hk_23
            have hk_27 : qk st_38 a_25 = 6 := by rw [(mo_X5_isText a_32 0 r_37 _ _ _ hc_39).2.2.1]; exact hk_27
            have hk_34 : qk st_38 a_32 = 8 := by rw [(mo_X5_isText a_32 0 r_37 _ _ _ hc_39).2.2.1]; exact hk_34
            refine lv_if_ne (tgt := 101) hx hb dX8_say_91 (by decide) (fun c_41 => ?_) (fun c_41 => ?_)
            · have hf := pif_f c_41 hf
              refine lv_aload_n hx hb dX8_say_101 rfl (lv_at hl 3 rfl) ?_
              refine q_gp (ci := 10) (C := RX8) (T := TX8) (N := 12) (k := 7) hx hb hts iRX8 hown hK hp hk_8 (by decide) rfl rfl (by decide) rfl (Or.inl (hts (.fieldLink RX8 60 "RecordBench" "fresh" "LRecordBench$Row;") (by decide +kernel))) (fun _ h9 => h9) dX8_say_102 ?_
              refine lv_iconst (v := 0) hx hb dX8_say_105 (by decide) ?_
              obtain ⟨a_42, ha_43, hf⟩ := ono_some hf
              refine o_at1 ha_43 ?_
              obtain ⟨hk_44, hf⟩ := gd_some hf
              obtain ⟨r_47, st_45, hc_46, hf⟩ := bnd_some hf
              refine q_ci hp hA (va_runV (As := [.int 0]) (rest := []) ⟨hx, hb, hml, hown, hts⟩ (c_X5_cut l dC dI ka ad ct a_42 0 _ _ _ hc_46 _) (cwV 1 hts gq_X8_say_X5_cut_83 rfl rfl rfl (by decide +kernel) ⟨Nat.le_of_ble_eq_true rfl, Nat.le_of_ble_eq_true rfl⟩) ⟨PrC.blind _, q_rv7 hK hp hC hk_44, q_pre hp hK hN hZ hC hR hL hA⟩ rfl rfl hl.1 rfl (lv_room (Nat.le_of_ble_eq_true rfl)) dX8_say_106 ⟨Nat.le_of_ble_eq_true rfl, Nat.le_of_ble_eq_true rfl⟩) (fun H locs hp => ?_)
              have hk_8 : qk st_45 h0 = 11 := by rw [(mo_X5_cut a_42 0 _ _ _ hc_46).2.2.1]; exact hk_8
              have hk_23 : qk st_45 a_21 = 3 := by rw [(mo_X5_cut a_42 0 _ _ _ hc_46).2.2.1]; exact hk_23
              have hk_27 : qk st_45 a_25 = 6 := by rw [(mo_X5_cut a_42 0 _ _ _ hc_46).2.2.1]; exact hk_27
              have hk_34 : qk st_45 a_32 = 8 := by rw [(mo_X5_cut a_42 0 _ _ _ hc_46).2.2.1]; exact hk_34
              have hk_44 : qk st_45 a_42 = 8 := by rw [(mo_X5_cut a_42 0 _ _ _ hc_46).2.2.1]; exact hk_44
              refine lv_pop hx hb dX8_say_109 rfl ?_
              refine lv_aload_n hx hb dX8_say_110 rfl (lv_at hl 3 rfl) ?_
              refine q_gp (ci := 10) (C := RX8) (T := TX8) (N := 12) (k := 7) hx hb hts iRX8 hown hK hp hk_8 (by decide) rfl rfl (by decide) rfl (Or.inl (hts (.fieldLink RX8 60 "RecordBench" "fresh" "LRecordBench$Row;") (by decide +kernel))) (fun _ h9 => h9) dX8_say_111 ?_
              refine o_aload hx hb dX8_say_114 (lv_at hl 0 rfl) ?_
              obtain ⟨a_48, ha_49, hf⟩ := ono_some hf
              refine o_at1 ha_49 ?_
              obtain ⟨hk_50, hf⟩ := gd_some hf
              obtain ⟨st_51, hc_52, hf⟩ := bnv_some hf
              refine q_cv hp hA (va_runV (As := [va_rf (Option.map ad r_17)]) (rest := []) ⟨hx, hb, hml, hown, hts⟩ (c_X5_pushKey l dC dI ka ad ct a_48 r_17 _ _ hc_52 _) (cwV 1 hts gq_X8_say_X5_pushKey_152 rfl rfl rfl (by decide +kernel) ⟨Nat.le_of_ble_eq_true rfl, Nat.le_of_ble_eq_true rfl⟩) ⟨PrC.blind _, q_rv7 hK hp hC hk_50, q_pre hp hK hN hZ hC hR hL hA⟩ rfl rfl hl.1 rfl (lv_room (Nat.le_of_ble_eq_true rfl)) dX8_say_116 ⟨Nat.le_of_ble_eq_true rfl, Nat.le_of_ble_eq_true rfl⟩) (fun H locs hp => ?_)
              have hk_8 : qk st_51 h0 = 11 := by rw [(mo_X5_pushKey a_48 r_17 _ _ hc_52).2.2.1]; exact hk_8
              have hk_23 : qk st_51 a_21 = 3 := by rw [(mo_X5_pushKey a_48 r_17 _ _ hc_52).2.2.1]; exact hk_23
              have hk_27 : qk st_51 a_25 = 6 := by rw [(mo_X5_pushKey a_48 r_17 _ _ hc_52).2.2.1]; exact hk_27
              have hk_34 : qk st_51 a_32 = 8 := by rw [(mo_X5_pushKey a_48 r_17 _ _ hc_52).2.2.1]; exact hk_34
              have hk_44 : qk st_51 a_42 = 8 := by rw [(mo_X5_pushKey a_48 r_17 _ _ hc_52).2.2.1]; exact hk_44
              have hk_50 : qk st_51 a_48 = 8 := by rw [(mo_X5_pushKey a_48 r_17 _ _ hc_52).2.2.1]; exact hk_50
              refine lv_aload_n hx hb dX8_say_119 rfl (lv_at hl 3 rfl) ?_
              refine q_gp (ci := 10) (C := RX8) (T := TX8) (N := 12) (k := 7) hx hb hts iRX8 hown hK hp hk_8 (by decide) rfl rfl (by decide) rfl (Or.inl (hts (.fieldLink RX8 60 "RecordBench" "fresh" "LRecordBench$Row;") (by decide +kernel))) (fun _ h9 => h9) dX8_say_120 ?_
              refine lv_aload_n hx hb dX8_say_123 rfl (lv_at hl 3 rfl) ?_
              refine q_gp (ci := 10) (C := RX8) (T := TX8) (N := 12) (k := 0) hx hb hts iRX8 hown hK hp hk_8 (by decide) rfl rfl (by decide) rfl (Or.inl (hts (.fieldLink RX8 14 "RecordBench" "tape" "LRecordBench$Row;") (by decide +kernel))) (fun _ h9 => h9) dX8_say_124 ?_
              obtain ⟨a_54, ha_55, hf⟩ := ono_some hf
              refine o_at ha_55 ?_
              obtain ⟨hk_56, hf⟩ := gd_some hf
              obtain ⟨r_59, st_57, hc_58, hf⟩ := bnd_some hf
              refine q_ci hp hA (va_runV (As := []) (rest := [va_rf (Option.map ad (qP st_51 h0 7))]) ⟨hx, hb, hml, hown, hts⟩ (c_X5_size l dC dI ka ad ct a_54 _ _ _ hc_58 _) (cwV 0 hts gq_X8_say_X5_size_76 rfl rfl rfl (by decide +kernel) ⟨Nat.le_of_ble_eq_true rfl, Nat.le_of_ble_eq_true rfl⟩) ⟨PrC.blind _, q_rv7 hK hp hC hk_56, q_pre hp hK hN hZ hC hR hL hA⟩ rfl rfl hl.1 rfl (lv_room (by simp [rf_cat, vc_i, vc_l, vc_r, vc_n])) dX8_say_127 ⟨Nat.le_of_ble_eq_true rfl, Nat.le_of_ble_eq_true rfl⟩) (fun H locs hp => ?_)
              have hk_8 : qk st_57 h0 = 11 := by rw [(mo_X5_size a_54 _ _ _ hc_58).2.2.1]; exact hk_8
              have hk_23 : qk st_57 a_21 = 3 := by rw [(mo_X5_size a_54 _ _ _ hc_58).2.2.1]; exact hk_23
              have hk_27 : qk st_57 a_25 = 6 := by rw [(mo_X5_size a_54 _ _ _ hc_58).2.2.1]; exact hk_27
              have hk_34 : qk st_57 a_32 = 8 := by rw [(mo_X5_size a_54 _ _ _ hc_58).2.2.1]; exact hk_34
              have hk_44 : qk st_57 a_42 = 8 := by rw [(mo_X5_size a_54 _ _ _ hc_58).2.2.1]; exact hk_44
              have hk_50 : qk st_57 a_48 = 8 := by rw [(mo_X5_size a_54 _ _ _ hc_58).2.2.1]; exact hk_50
              have hk_56 : qk st_57 a_54 = 8 := by rw [(mo_X5_size a_54 _ _ _ hc_58).2.2.1]; exact hk_56
              refine lv_i2l (v := r_59.toInt64) hx hb dX8_say_130 rfl ?_
              obtain ⟨a_60, ha_61, hf⟩ := ono_some hf
              refine o_at1 ha_61 ?_
              obtain ⟨hk_62, hf⟩ := gd_some hf
              obtain ⟨st_63, hc_64, hf⟩ := bnv_some hf
              refine q_cv hp hA (va_runV (As := [.long r_59.toInt64]) (rest := []) ⟨hx, hb, hml, hown, hts⟩ (c_X5_pushVarint l dC dI ka ad ct a_60 r_59.toInt64 _ _ hc_64 _) (cwV 1 hts gq_X8_say_X5_pushVarint_168 rfl rfl rfl (by decide +kernel) ⟨Nat.le_of_ble_eq_true rfl, Nat.le_of_ble_eq_true rfl⟩) ⟨PrC.blind _, q_rv7 hK hp hC hk_62, q_pre hp hK hN hZ hC hR hL hA⟩ rfl rfl hl.1 rfl (lv_room (Nat.le_of_ble_eq_true rfl)) dX8_say_131 ⟨Nat.le_of_ble_eq_true rfl, Nat.le_of_ble_eq_true rfl⟩) (fun H locs hp => ?_)
              have hk_8 : qk st_63 h0 = 11 := by rw [(mo_X5_pushVarint a_60 r_59.toInt64 _ _ hc_64).2.2.1]; exact hk_8
              have hk_23 : qk st_63 a_21 = 3 := by rw [(mo_X5_pushVarint a_60 r_59.toInt64 _ _ hc_64).2.2.1]; exact hk_23
              have hk_27 : qk st_63 a_25 = 6 := by rw [(mo_X5_pushVarint a_60 r_59.toInt64 _ _ hc_64).2.2.1]; exact hk_27
              have hk_34 : qk st_63 a_32 = 8 := by rw [(mo_X5_pushVarint a_60 r_59.toInt64 _ _ hc_64).2.2.1]; exact hk_34
              have hk_44 : qk st_63 a_42 = 8 := by rw [(mo_X5_pushVarint a_60 r_59.toInt64 _ _ hc_64).2.2.1]; exact hk_44
              have hk_50 : qk st_63 a_48 = 8 := by rw [(mo_X5_pushVarint a_60 r_59.toInt64 _ _ hc_64).2.2.1]; exact hk_50
              have hk_56 : qk st_63 a_54 = 8 := by rw [(mo_X5_pushVarint a_60 r_59.toInt64 _ _ hc_64).2.2.1]; exact hk_56
              have hk_62 : qk st_63 a_60 = 8 := by rw [(mo_X5_pushVarint a_60 r_59.toInt64 _ _ hc_64).2.2.1]; exact hk_62
              refine lv_aload_n hx hb dX8_say_134 rfl (lv_at hl 3 rfl) ?_
              refine q_gp (ci := 10) (C := RX8) (T := TX8) (N := 12) (k := 7) hx hb hts iRX8 hown hK hp hk_8 (by decide) rfl rfl (by decide) rfl (Or.inl (hts (.fieldLink RX8 60 "RecordBench" "fresh" "LRecordBench$Row;") (by decide +kernel))) (fun _ h9 => h9) dX8_say_135 ?_
              refine lv_aload_n hx hb dX8_say_138 rfl (lv_at hl 3 rfl) ?_
              refine q_gp (ci := 10) (C := RX8) (T := TX8) (N := 12) (k := 0) hx hb hts iRX8 hown hK hp hk_8 (by decide) rfl rfl (by decide) rfl (Or.inl (hts (.fieldLink RX8 14 "RecordBench" "tape" "LRecordBench$Row;") (by decide +kernel))) (fun _ h9 => h9) dX8_say_139 ?_
              refine lv_iconst (v := 0) hx hb dX8_say_142 (by decide) ?_
              refine lv_aload_n hx hb dX8_say_143 rfl (lv_at hl 3 rfl) ?_
              refine q_gp (ci := 10) (C := RX8) (T := TX8) (N := 12) (k := 0) hx hb hts iRX8 hown hK hp hk_8 (by decide) rfl rfl (by decide) rfl (Or.inl (hts (.fieldLink RX8 14 "RecordBench" "tape" "LRecordBench$Row;") (by decide +kernel))) (fun _ h9 => h9) dX8_say_144 ?_
              obtain ⟨a_66, ha_67, hf⟩ := ono_some hf
              refine o_at ha_67 ?_
              obtain ⟨hk_68, hf⟩ := gd_some hf
              obtain ⟨r_71, st_69, hc_70, hf⟩ := bnd_some hf
              refine q_ci hp hA (va_runV (As := []) (rest := [.int 0, va_rf (Option.map ad (qP st_63 h0 0)), va_rf (Option.map ad (qP st_63 h0 7))]) ⟨hx, hb, hml, hown, hts⟩ (c_X5_size l dC dI ka ad ct a_66 _ _ _ hc_70 _) (cwV 0 hts gq_X8_say_X5_size_76 rfl rfl rfl (by decide +kernel) ⟨Nat.le_of_ble_eq_true rfl, Nat.le_of_ble_eq_true rfl⟩) ⟨PrC.blind _, q_rv7 hK hp hC hk_68, q_pre hp hK hN hZ hC hR hL hA⟩ rfl rfl hl.1 rfl (lv_room (by simp [rf_cat, vc_i, vc_l, vc_r, vc_n])) dX8_say_147 ⟨Nat.le_of_ble_eq_true rfl, Nat.le_of_ble_eq_true rfl⟩) (fun H locs hp => ?_)
              have hk_8 : qk st_69 h0 = 11 := by rw [(mo_X5_size a_66 _ _ _ hc_70).2.2.1]; exact hk_8
              have hk_23 : qk st_69 a_21 = 3 := by rw [(mo_X5_size a_66 _ _ _ hc_70).2.2.1]; exact hk_23
              have hk_27 : qk st_69 a_25 = 6 := by rw [(mo_X5_size a_66 _ _ _ hc_70).2.2.1]; exact hk_27
              have hk_34 : qk st_69 a_32 = 8 := by rw [(mo_X5_size a_66 _ _ _ hc_70).2.2.1]; exact hk_34
              have hk_44 : qk st_69 a_42 = 8 := by rw [(mo_X5_size a_66 _ _ _ hc_70).2.2.1]; exact hk_44
              have hk_50 : qk st_69 a_48 = 8 := by rw [(mo_X5_size a_66 _ _ _ hc_70).2.2.1]; exact hk_50
              have hk_56 : qk st_69 a_54 = 8 := by rw [(mo_X5_size a_66 _ _ _ hc_70).2.2.1]; exact hk_56
              have hk_62 : qk st_69 a_60 = 8 := by rw [(mo_X5_size a_66 _ _ _ hc_70).2.2.1]; exact hk_62
              have hk_68 : qk st_69 a_66 = 8 := by rw [(mo_X5_size a_66 _ _ _ hc_70).2.2.1]; exact hk_68
              obtain ⟨a_72, ha_73, hf⟩ := ono_some hf
              refine o_at3 ha_73 ?_
              obtain ⟨hk_74, hf⟩ := gd_some hf
              obtain ⟨st_75, hc_76, hf⟩ := bnv_some hf
              refine q_cv hp hA (va_runV (As := [va_rf (Option.map ad (qP st_63 h0 0)), .int 0, .int r_71]) (rest := []) ⟨hx, hb, hml, hown, hts⟩ (c_X5_append l dC dI ka ad ct a_72 (qP st_63 h0 0) 0 r_71 _ _ hc_76 _) (cwV 3 hts gq_X8_say_X5_append_171 rfl rfl rfl (by decide +kernel) ⟨Nat.le_of_ble_eq_true rfl, Nat.le_of_ble_eq_true rfl⟩) ⟨PrC.blind _, q_rv7 hK hp hC hk_74, q_pre hp hK hN hZ hC hR hL hA⟩ rfl rfl hl.1 rfl (lv_room (Nat.le_of_ble_eq_true rfl)) dX8_say_150 ⟨Nat.le_of_ble_eq_true rfl, Nat.le_of_ble_eq_true rfl⟩) (fun H locs hp => ?_)
              have hk_8 : qk st_75 h0 = 11 := by rw [(mo_X5_append a_72 (qP st_63 h0 0) 0 r_71 _ _ hc_76).2.2.1]; exact hk_8
              have hk_23 : qk st_75 a_21 = 3 := by rw [(mo_X5_append a_72 (qP st_63 h0 0) 0 r_71 _ _ hc_76).2.2.1]; exact hk_23
              have hk_27 : qk st_75 a_25 = 6 := by rw [(mo_X5_append a_72 (qP st_63 h0 0) 0 r_71 _ _ hc_76).2.2.1]; exact hk_27
              have hk_34 : qk st_75 a_32 = 8 := by rw [(mo_X5_append a_72 (qP st_63 h0 0) 0 r_71 _ _ hc_76).2.2.1]; exact hk_34
              have hk_44 : qk st_75 a_42 = 8 := by rw [(mo_X5_append a_72 (qP st_63 h0 0) 0 r_71 _ _ hc_76).2.2.1]; exact hk_44
              have hk_50 : qk st_75 a_48 = 8 := by rw [(mo_X5_append a_72 (qP st_63 h0 0) 0 r_71 _ _ hc_76).2.2.1]; exact hk_50
              have hk_56 : qk st_75 a_54 = 8 := by rw [(mo_X5_append a_72 (qP st_63 h0 0) 0 r_71 _ _ hc_76).2.2.1]; exact hk_56
              have hk_62 : qk st_75 a_60 = 8 := by rw [(mo_X5_append a_72 (qP st_63 h0 0) 0 r_71 _ _ hc_76).2.2.1]; exact hk_62
              have hk_68 : qk st_75 a_66 = 8 := by rw [(mo_X5_append a_72 (qP st_63 h0 0) 0 r_71 _ _ hc_76).2.2.1]; exact hk_68
              have hk_74 : qk st_75 a_72 = 8 := by rw [(mo_X5_append a_72 (qP st_63 h0 0) 0 r_71 _ _ hc_76).2.2.1]; exact hk_74
              refine lv_aload_n hx hb dX8_say_153 rfl (lv_at hl 3 rfl) ?_
              refine o_aload hx hb dX8_say_154 (lv_at hl 2 rfl) ?_
              refine o_aload hx hb dX8_say_156 (lv_at hl 1 rfl) ?_
              refine lv_iload_n hx hb dX8_say_158 rfl (lv_at hl 6 rfl) ?_
              refine o_aload hx hb dX8_say_159 (lv_at hl 0 rfl) ?_
              refine o_at ha_22 ?_
              refine q_gi (ci := 2) (C := RX0) (T := TX0) (N := 7) (k := 2) hx hb hts iRX0 hown hK hp hk_23 (by decide) rfl rfl (by decide) rfl (Or.inr ⟨_, va_Nw.use rfl (hN.1 (.fieldLinkNest RX8 109 "RecordBench$Field" "group" "I" "RecordBench") (by decide +kernel))⟩) (fun _ h9 => h9) dX8_say_161 ?_
              obtain ⟨r_80, st_78, hc_79, hf⟩ := bnd_some hf
              refine q_ci hp hA (va_runV (As := [va_rf (Option.map ad r_11), va_rf (Option.map ad r_14), .int p2, .int (qI st_75 a_21 2)]) (rest := []) ⟨hx, hb, hml, hown, hts⟩ (c_X8_settle l dC dI ka ad ct h0 r_11 r_14 p2 (qI st_75 a_21 2) _ _ _ hc_79 _) (cwV 4 hts gq_X8_say_X8_settle_160 rfl rfl rfl (by decide +kernel) ⟨Nat.le_of_ble_eq_true rfl, Nat.le_of_ble_eq_true rfl⟩) ⟨PrC.blind _, q_rv10 hK hp hC hk_8, q_pre hp hK hN hZ hC hR hL hA⟩ rfl rfl hl.1 rfl (lv_room (Nat.le_of_ble_eq_true rfl)) dX8_say_164 ⟨Nat.le_of_ble_eq_true rfl, Nat.le_of_ble_eq_true rfl⟩) (fun H locs hp => ?_)
              have hk_8 : qk st_78 h0 = 11 := by rw [(mo_X8_settle h0 r_11 r_14 p2 (qI st_75 a_21 2) _ _ _ hc_79).2.2.1]; exact hk_8
              have hk_23 : qk st_78 a_21 = 3 := by rw [(mo_X8_settle h0 r_11 r_14 p2 (qI st_75 a_21 2) _ _ _ hc_79).2.2.1]; exact hk_23
              have hk_27 : qk st_78 a_25 = 6 := by rw [(mo_X8_settle h0 r_11 r_14 p2 (qI st_75 a_21 2) _ _ _ hc_79).2.2.1]; exact hk_27
              have hk_34 : qk st_78 a_32 = 8 := by rw [(mo_X8_settle h0 r_11 r_14 p2 (qI st_75 a_21 2) _ _ _ hc_79).2.2.1]; exact hk_34
              have hk_44 : qk st_78 a_42 = 8 := by rw [(mo_X8_settle h0 r_11 r_14 p2 (qI st_75 a_21 2) _ _ _ hc_79).2.2.1]; exact hk_44
              have hk_50 : qk st_78 a_48 = 8 := by rw [(mo_X8_settle h0 r_11 r_14 p2 (qI st_75 a_21 2) _ _ _ hc_79).2.2.1]; exact hk_50
              have hk_56 : qk st_78 a_54 = 8 := by rw [(mo_X8_settle h0 r_11 r_14 p2 (qI st_75 a_21 2) _ _ _ hc_79).2.2.1]; exact hk_56
              have hk_62 : qk st_78 a_60 = 8 := by rw [(mo_X8_settle h0 r_11 r_14 p2 (qI st_75 a_21 2) _ _ _ hc_79).2.2.1]; exact hk_62
              have hk_68 : qk st_78 a_66 = 8 := by rw [(mo_X8_settle h0 r_11 r_14 p2 (qI st_75 a_21 2) _ _ _ hc_79).2.2.1]; exact hk_68
              have hk_74 : qk st_78 a_72 = 8 := by rw [(mo_X8_settle h0 r_11 r_14 p2 (qI st_75 a_21 2) _ _ _ hc_79).2.2.1]; exact hk_74
              refine lv_istore (i := 7) (lv' := [(7, .int r_80), (6, va_rf (Option.map ad r_17)), (5, va_rf (Option.map ad r_14)), (4, va_rf (Option.map ad r_11)), (0, .ref (ad h0)), (1, .int p0), (2, .int p1), (3, .int p2)]) hx hb dX8_say_167 hl (by decide) (by simp [rf_cat, vc_i, vc_l, vc_r, vc_n]) (fun ls hl => ?_)
              exact J169 (r_80, st_78) _ _ _ ⟨hf, hp, (lv_sub hl [4, 0] rfl)⟩
            · have hf := pif_t c_41 hf
              refine lv_bipush (v := (-3)) hx hb dX8_say_94 (by decide) ?_
              refine lv_istore (i := 7) (lv' := [(7, .int ((-3))), (6, va_rf (Option.map ad r_17)), (5, va_rf (Option.map ad r_14)), (4, va_rf (Option.map ad r_11)), (0, .ref (ad h0)), (1, .int p0), (2, .int p1), (3, .int p2)]) hx hb dX8_say_96 hl (by decide) (by simp [rf_cat, vc_i, vc_l, vc_r, vc_n]) (fun ls hl => ?_)
              refine lv_goto (tgt := 169) hx hb dX8_say_98 (by decide) ?_
              exact J169 ((-3), st_38) _ _ _ ⟨hf, hp, (lv_sub hl [4, 0] rfl)⟩
          · have hf := pif_t c_31 hf
            refine lv_bipush (v := (-2)) hx hb dX8_say_69 (by decide) ?_
            refine lv_istore (i := 7) (lv' := [(7, .int ((-2))), (6, va_rf (Option.map ad r_17)), (5, va_rf (Option.map ad r_14)), (4, va_rf (Option.map ad r_11)), (0, .ref (ad h0)), (1, .int p0), (2, .int p1), (3, .int p2)]) hx hb dX8_say_71 hl (by decide) (by simp [rf_cat, vc_i, vc_l, vc_r, vc_n]) (fun ls hl => ?_)
            refine lv_goto (tgt := 169) hx hb dX8_say_73 (by decide) ?_
            exact J169 ((-2), st_28) _ _ _ ⟨hf, hp, (lv_sub hl [4, 0] rfl)⟩
        · have hf := pif_f c_24 hf
          exact J49 st_15 _ _ _ ⟨hf, hp, (lv_sub hl [3] rfl)⟩
noncomputable def fX8_nest (h0 : Nat) (p0 : Int32) (p1 : Int32) (p2 : Int32) (p3 : Int32) (st : CS) : Option (Int32 × CS) := gd (qk st h0 = 11) (bnd (fX8_recordOf h0 p0 st) (fun r_4 st_2 => bnd (fX8_recordOf h0 p3 st_2) (fun r_7 st_5 => bnd (fX8_makeOf (qP st_5 h0 2) p1 st_5) (fun r_10 st_8 => bnd (fX8_fieldOf h0 p1 p2 st_8) (fun r_13 st_11 => pif (r_4 = none) (some (((-1) : Int32), st_11)) (pif (r_7 = none) (some (((-1) : Int32), st_11)) (pif (r_10 = none) (some (((-1) : Int32), st_11)) (pif (r_13 = none) (some (((-1) : Int32), st_11)) (ono r_13 (fun a_18 => gd (qk st_11 a_18 = 3) (pif ((qI st_11 a_18 1) = 6) (pif (p0 = p3) (some (((-1) : Int32), st_11)) (bnd (fX8_makeOf (qP st_11 h0 2) (qI st_11 a_18 3) st_11) (fun r_25 st_23 => pif (r_25 = none) (some (((-1) : Int32), st_23)) (ono (qP st_23 h0 4) (fun a_27 => gd (qk st_23 a_27 = 6) (bnd (fX3_isSound a_27 r_4 r_10 st_23) (fun r_32 st_30 => pif (r_32 = 0) (some (((-2) : Int32), st_30)) (ono (qP st_30 h0 4) (fun a_34 => gd (qk st_30 a_34 = 6) (bnd (fX3_isSound a_34 r_7 r_25 st_30) (fun r_39 st_37 => pif (r_39 = 0) (some (((-2) : Int32), st_37)) (ono (qP st_37 h0 5) (fun a_41 => gd (qk st_37 a_41 = 7) (bnv (fX4_rewrite a_41 r_7 r_25 (qP st_37 h0 8) st_37) (fun st_44 => ono (qP st_44 h0 7) (fun a_47 => gd (qk st_44 a_47 = 8) (bnd (fX5_cut a_47 0 st_44) (fun r_52 st_50 => ono (qP st_50 h0 7) (fun a_53 => gd (qk st_50 a_53 = 8) (bnv (fX5_pushKey a_53 r_13 st_50) (fun st_56 => ono (qP st_56 h0 8) (fun a_59 => gd (qk st_56 a_59 = 8) (bnd (fX5_size a_59 st_56) (fun r_64 st_62 => ono (qP st_56 h0 7) (fun a_65 => gd (qk st_62 a_65 = 8) (bnv (fX5_pushVarint a_65 r_64.toInt64 st_62) (fun st_68 => ono (qP st_68 h0 8) (fun a_71 => gd (qk st_68 a_71 = 8) (bnd (fX5_size a_71 st_68) (fun r_76 st_74 => ono (qP st_68 h0 7) (fun a_77 => gd (qk st_74 a_77 = 8) (bnv (fX5_append a_77 (qP st_68 h0 8) 0 r_76 st_74) (fun st_80 => bnd (fX8_settle h0 r_4 r_10 p2 (qI st_80 a_18 2) st_80) (fun r_85 st_83 => some (r_85, st_83))))))))))))))))))))))))))))))))))) (some (((-1) : Int32), st_11)))))))))))))
set_option maxHeartbeats 1000000 in
theorem mo_X8_nest (h0 : Nat) (p0 : Int32) (p1 : Int32) (p2 : Int32) (p3 : Int32) (st : CS) (r : Int32) (st' : CS) (hf : fX8_nest h0 p0 p1 p2 p3 st = some (r, st')) : Ke st st' := by
  unfold fX8_nest at hf
  have hm : Ke st st := Ke.rf
  obtain ⟨hk_1, hf⟩ := gd_some hf
  obtain ⟨r_4, st_2, hc_3, hf⟩ := bnd_some hf
  have hm := hm.tr (mo_X8_recordOf h0 p0 _ _ _ hc_3)
  obtain ⟨r_7, st_5, hc_6, hf⟩ := bnd_some hf
  have hm := hm.tr (mo_X8_recordOf h0 p3 _ _ _ hc_6)
  obtain ⟨r_10, st_8, hc_9, hf⟩ := bnd_some hf
  have hm := hm.tr (mo_X8_makeOf (qP st_5 h0 2) p1 _ _ _ hc_9)
  obtain ⟨r_13, st_11, hc_12, hf⟩ := bnd_some hf
  have hm := hm.tr (mo_X8_fieldOf h0 p1 p2 _ _ _ hc_12)
  rcases pif_or hf with ⟨c_14, hf⟩ | ⟨c_14, hf⟩
  · obtain ⟨e1, e2⟩ := pr_some hf
    exact e2 ▸ hm
  · rcases pif_or hf with ⟨c_15, hf⟩ | ⟨c_15, hf⟩
    · obtain ⟨e1, e2⟩ := pr_some hf
      exact e2 ▸ hm
    · rcases pif_or hf with ⟨c_16, hf⟩ | ⟨c_16, hf⟩
      · obtain ⟨e1, e2⟩ := pr_some hf
        exact e2 ▸ hm
      · rcases pif_or hf with ⟨c_17, hf⟩ | ⟨c_17, hf⟩
        · obtain ⟨e1, e2⟩ := pr_some hf
          exact e2 ▸ hm
        · obtain ⟨a_18, ha_19, hf⟩ := ono_some hf
          obtain ⟨hk_20, hf⟩ := gd_some hf
          rcases pif_or hf with ⟨c_21, hf⟩ | ⟨c_21, hf⟩
          · rcases pif_or hf with ⟨c_22, hf⟩ | ⟨c_22, hf⟩
            · obtain ⟨e1, e2⟩ := pr_some hf
              exact e2 ▸ hm
            · obtain ⟨r_25, st_23, hc_24, hf⟩ := bnd_some hf
              have hm := hm.tr (mo_X8_makeOf (qP st_11 h0 2) (qI st_11 a_18 3) _ _ _ hc_24)
              rcases pif_or hf with ⟨c_26, hf⟩ | ⟨c_26, hf⟩
              · obtain ⟨e1, e2⟩ := pr_some hf
                exact e2 ▸ hm
              · obtain ⟨a_27, ha_28, hf⟩ := ono_some hf
                obtain ⟨hk_29, hf⟩ := gd_some hf
                obtain ⟨r_32, st_30, hc_31, hf⟩ := bnd_some hf
                have hm := hm.tr (mo_X3_isSound a_27 r_4 r_10 _ _ _ hc_31)
                rcases pif_or hf with ⟨c_33, hf⟩ | ⟨c_33, hf⟩
                · obtain ⟨e1, e2⟩ := pr_some hf
                  exact e2 ▸ hm
                · obtain ⟨a_34, ha_35, hf⟩ := ono_some hf
                  obtain ⟨hk_36, hf⟩ := gd_some hf
                  obtain ⟨r_39, st_37, hc_38, hf⟩ := bnd_some hf
                  have hm := hm.tr (mo_X3_isSound a_34 r_7 r_25 _ _ _ hc_38)
                  rcases pif_or hf with ⟨c_40, hf⟩ | ⟨c_40, hf⟩
                  · obtain ⟨e1, e2⟩ := pr_some hf
                    exact e2 ▸ hm
                  · obtain ⟨a_41, ha_42, hf⟩ := ono_some hf
                    obtain ⟨hk_43, hf⟩ := gd_some hf
                    obtain ⟨st_44, hc_45, hf⟩ := bnv_some hf
                    have hm := hm.tr (mo_X4_rewrite a_41 r_7 r_25 (qP st_37 h0 8) _ _ hc_45)
                    obtain ⟨a_47, ha_48, hf⟩ := ono_some hf
                    obtain ⟨hk_49, hf⟩ := gd_some hf
                    obtain ⟨r_52, st_50, hc_51, hf⟩ := bnd_some hf
                    have hm := hm.tr (mo_X5_cut a_47 0 _ _ _ hc_51)
                    obtain ⟨a_53, ha_54, hf⟩ := ono_some hf
                    obtain ⟨hk_55, hf⟩ := gd_some hf
                    obtain ⟨st_56, hc_57, hf⟩ := bnv_some hf
                    have hm := hm.tr (mo_X5_pushKey a_53 r_13 _ _ hc_57)
                    obtain ⟨a_59, ha_60, hf⟩ := ono_some hf
                    obtain ⟨hk_61, hf⟩ := gd_some hf
                    obtain ⟨r_64, st_62, hc_63, hf⟩ := bnd_some hf
                    have hm := hm.tr (mo_X5_size a_59 _ _ _ hc_63)
                    obtain ⟨a_65, ha_66, hf⟩ := ono_some hf
                    obtain ⟨hk_67, hf⟩ := gd_some hf
                    obtain ⟨st_68, hc_69, hf⟩ := bnv_some hf
                    have hm := hm.tr (mo_X5_pushVarint a_65 r_64.toInt64 _ _ hc_69)
                    obtain ⟨a_71, ha_72, hf⟩ := ono_some hf
                    obtain ⟨hk_73, hf⟩ := gd_some hf
                    obtain ⟨r_76, st_74, hc_75, hf⟩ := bnd_some hf
                    have hm := hm.tr (mo_X5_size a_71 _ _ _ hc_75)
                    obtain ⟨a_77, ha_78, hf⟩ := ono_some hf
                    obtain ⟨hk_79, hf⟩ := gd_some hf
                    obtain ⟨st_80, hc_81, hf⟩ := bnv_some hf
                    have hm := hm.tr (mo_X5_append a_77 (qP st_68 h0 8) 0 r_76 _ _ hc_81)
                    obtain ⟨r_85, st_83, hc_84, hf⟩ := bnd_some hf
                    have hm := hm.tr (mo_X8_settle h0 r_4 r_10 p2 (qI st_80 a_18 2) _ _ _ hc_84)
                    obtain ⟨e1, e2⟩ := pr_some hf
                    exact e2 ▸ hm
          · obtain ⟨e1, e2⟩ := pr_some hf
            exact e2 ▸ hm
def wq_X8_nest : List Cond := .code yX8_nest cX8_nest 10 (some .int) :: (([.fieldLink RX8 24 "RecordBench" "makes" "[LRecordBench$Make;", .fieldLink RX8 42 "RecordBench" "reader" "LRecordBench$RecordReader;", .fieldLink RX8 49 "RecordBench" "writer" "LRecordBench$RecordWriter;", .fieldLink RX8 63 "RecordBench" "work" "LRecordBench$Row;", .fieldLink RX8 60 "RecordBench" "fresh" "LRecordBench$Row;", .methodLink RX8 128 yX8_recordOf, .instanceMethod yX8_recordOf, .selects RX8 yX8_recordOf yX8_recordOf, .initialized RX8, .methodLink RX8 136 yX8_makeOf, .static yX8_makeOf, .methodLink RX8 100 yX8_fieldOf, .instanceMethod yX8_fieldOf, .selects RX8 yX8_fieldOf yX8_fieldOf, .methodLink RX8 144 yX3_isSound, .instanceMethod yX3_isSound, .selects RX3 yX3_isSound yX3_isSound, .initialized RX3, .methodLink RX8 174 yX4_rewrite, .instanceMethod yX4_rewrite, .selects RX4 yX4_rewrite yX4_rewrite, .initialized RX4, .methodLink RX8 83 yX5_cut, .instanceMethod yX5_cut, .selects RX5 yX5_cut yX5_cut, .initialized RX5, .methodLink RX8 152 yX5_pushKey, .instanceMethod yX5_pushKey, .selects RX5 yX5_pushKey yX5_pushKey, .methodLink RX8 76 yX5_size, .instanceMethod yX5_size, .selects RX5 yX5_size yX5_size, .methodLink RX8 168 yX5_pushVarint, .instanceMethod yX5_pushVarint, .selects RX5 yX5_pushVarint yX5_pushVarint, .methodLink RX8 171 yX5_append, .instanceMethod yX5_append, .selects RX5 yX5_append yX5_append, .methodLink RX8 160 yX8_settle, .instanceMethod yX8_settle, .selects RX8 yX8_settle yX8_settle, .code yX8_recordOf cX8_recordOf 2 (some (.object "RecordBench$Row")), .fieldLink RX8 18 "RecordBench" "records" "[LRecordBench$Row;", .code yX8_makeOf cX8_makeOf 2 (some (.object "RecordBench$Make")), .code yX8_fieldOf cX8_fieldOf 4 (some (.object "RecordBench$Field")), .methodLink RX8 225 yX1_fieldAt, .instanceMethod yX1_fieldAt, .selects RX1 yX1_fieldAt yX1_fieldAt, .initialized RX1, .code yX1_fieldAt cX1_fieldAt 2 (some (.object "RecordBench$Field")), .fieldLink RX1 11 "RecordBench$Make" "fields" "[LRecordBench$Field;", .code yX3_isSound cX3_isSound 3 (some .boolean), .fieldLink RX3 22 "RecordBench$RecordReader" "fault" "I", .fieldLink RX3 26 "RecordBench$RecordReader" "place" "I", .methodLink RX3 29 yX5_size, .methodLink RX3 35 yX3_scan, .instanceMethod yX3_scan, .selects RX3 yX3_scan yX3_scan, .code yX5_size cX5_size 1 (some .int), .fieldLink RX5 21 "RecordBench$Row" "size" "I", .code yX3_scan cX3_scan 13 (some .boolean), .fieldLink RX3 17 "RecordBench$RecordReader" "pieces" "[LRecordBench$Piece;", .methodLink RX3 79 yX3_groupBit, .static yX3_groupBit, .methodLink RX3 43 yX2_look, .instanceMethod yX2_look, .selects RX2 yX2_look yX2_look, .initialized RX2, .methodLink RX3 50 yX1_knownAt, .instanceMethod yX1_knownAt, .selects RX1 yX1_knownAt yX1_knownAt, .methodLink RX3 56 yX3_faultOf, .static yX3_faultOf, .methodLink RX3 60 yX3_isRec, .static yX3_isRec, .fieldLink RX3 9 "RecordBench$RecordReader" "makes" "[LRecordBench$Make;", .methodLink RX3 39 yX3_refuse, .instanceMethod yX3_refuse, .selects RX3 yX3_refuse yX3_refuse, .code yX3_groupBit cX3_groupBit 1 (some .int), .code yX2_look cX2_look 6 none, .fieldLink RX2 9 "RecordBench$Piece" "number" "I", .fieldLink RX2 15 "RecordBench$Piece" "withLength" "Z", .fieldLink RX2 19 "RecordBench$Piece" "raw" "J", .fieldLink RX2 23 "RecordBench$Piece" "body" "I", .fieldLink RX2 26 "RecordBench$Piece" "end" "I", .fieldLink RX2 29 "RecordBench$Piece" "fault" "I", .fieldLink RX2 32 "RecordBench$Piece" "pos" "I", .fieldLink RX2 35 "RecordBench$Piece" "broken" "Z", .methodLink RX2 42 yX2_place, .instanceMethod yX2_place, .selects RX2 yX2_place yX2_place, .methodLink RX2 38 yX2_takeVarint, .instanceMethod yX2_takeVarint, .selects RX2 yX2_takeVarint yX2_takeVarint, .code yX2_place cX2_place 6 none, .constantLong RX2 46 (30), .code yX2_takeVarint cX2_takeVarint 7 (some .long), .constantLong RX2 54 (127), .methodLink RX2 48 yX5_byteAt, .instanceMethod yX5_byteAt, .selects RX5 yX5_byteAt yX5_byteAt, .code yX5_byteAt cX5_byteAt 2 (some .int), .fieldLink RX5 15 "RecordBench$Row" "bytes" "[I", .code yX1_knownAt cX1_knownAt 3 (some (.object "RecordBench$Field")), .methodLink RX1 21 yX1_fieldAt, .code yX3_faultOf cX3_faultOf 5 (some .int), .methodLink RX3 92 yX3_fits, .static yX3_fits, .methodLink RX3 88 yX0_hasLength, .instanceMethod yX0_hasLength, .selects RX0 yX0_hasLength yX0_hasLength, .initialized RX0, .code yX3_fits cX3_fits 3 (some .boolean), .methodLink RX3 96 yX0_isNumber, .instanceMethod yX0_isNumber, .selects RX0 yX0_isNumber yX0_isNumber, .methodLink RX3 110 yX5_isText, .instanceMethod yX5_isText, .selects RX5 yX5_isText yX5_isText, .methodLink RX3 99 yX2_asNumber, .instanceMethod yX2_asNumber, .selects RX2 yX2_asNumber yX2_asNumber, .methodLink RX3 103 yX0_holds, .instanceMethod yX0_holds, .selects RX0 yX0_holds yX0_holds, .code yX0_isNumber cX0_isNumber 1 (some .boolean), .fieldLink RX0 15 "RecordBench$Field" "kind" "I", .code yX5_isText cX5_isText 4 (some .boolean), .methodLink RX5 48 yX5_byteAt, .methodLink RX5 52 yX5_isTextByte, .static yX5_isTextByte, .code yX5_isTextByte cX5_isTextByte 1 (some .boolean), .code yX2_asNumber cX2_asNumber 1 (some .long), .code yX0_holds cX0_holds 3 (some .boolean), .constantLong RX0 37 (-128), .constantLong RX0 39 (127), .constantLong RX0 41 (-2147483648), .constantLong RX0 43 (2147483647), .code yX0_hasLength cX0_hasLength 1 (some .boolean), .code yX3_isRec cX3_isRec 1 (some .boolean), .code yX3_refuse cX3_refuse 3 (some .boolean), .code yX4_rewrite cX4_rewrite 4 none, .fieldLink RX4 27 "RecordBench$RecordWriter" "nothing" "LRecordBench$Row;", .methodLink RX4 31 yX4_rewriteWith, .instanceMethod yX4_rewriteWith, .selects RX4 yX4_rewriteWith yX4_rewriteWith, .code yX4_rewriteWith cX4_rewriteWith 13 none, .fieldLink RX4 17 "RecordBench$RecordWriter" "pieces" "[LRecordBench$Piece;", .methodLink RX4 39 yX5_size, .methodLink RX4 51 yX5_append, .methodLink RX4 66 yX4_copyPiece, .instanceMethod yX4_copyPiece, .selects RX4 yX4_copyPiece yX4_copyPiece, .methodLink RX4 54 yX1_knownAt, .methodLink RX4 43 yX2_look, .methodLink RX4 35 yX5_cut, .code yX5_append cX5_append 5 none, .methodLink RX5 25 yX5_push, .instanceMethod yX5_push, .selects RX5 yX5_push yX5_push, .code yX5_push cX5_push 2 none, .code yX4_copyPiece cX4_copyPiece 8 none, .fieldLink RX4 9 "RecordBench$RecordWriter" "makes" "[LRecordBench$Make;", .methodLink RX4 73 yX5_pushKey, .methodLink RX4 77 yX0_isNumber, .methodLink RX4 102 yX5_push, .methodLink RX4 112 yX4_copyAll, .instanceMethod yX4_copyAll, .selects RX4 yX4_copyAll yX4_copyAll, .methodLink RX4 116 yX5_replace, .instanceMethod yX5_replace, .selects RX5 yX5_replace yX5_replace, .methodLink RX4 96 yX5_pushVarint, .methodLink RX4 81 yX2_asNumber, .methodLink RX4 85 yX5_pushNumber, .instanceMethod yX5_pushNumber, .selects RX5 yX5_pushNumber yX5_pushNumber, .code yX5_pushKey cX5_pushKey 2 none, .constantLong RX5 37 (2), .methodLink RX5 33 yX5_pushVarint, .methodLink RX5 44 yX0_hasLength, .code yX5_pushVarint cX5_pushVarint 6 none, .constantLong RX5 29 (-128), .constantLong RX5 31 (127), .code yX4_copyAll cX4_copyAll 10 none, .code yX5_replace cX5_replace 3 none, .code yX5_pushNumber cX5_pushNumber 3 none, .code yX5_cut cX5_cut 2 (some .boolean), .code yX8_settle cX8_settle 5 (some .int), .methodLink RX8 221 yX4_rewriteWith, .methodLink RX8 132 yX5_become, .instanceMethod yX5_become, .selects RX5 yX5_become yX5_become, .code yX5_become cX5_become 6 none] : List Cond) ++ wsX80 ++ wsX00 ++ wsX10 ++ wsX30 ++ wsX50 ++ wsX20 ++ wsX40)
theorem gs_wq_X8_nest_wsX80 : GoodIn wq_X8_nest wsX80 := fun w h => ⟨List.mem_cons_of_mem _ (List.mem_append_left _ (List.mem_append_left _ (List.mem_append_left _ (List.mem_append_left _ (List.mem_append_left _ (List.mem_append_left _ (List.mem_append_right _ h))))))), (gt_wsX80 w h).2⟩
set_option maxRecDepth 20000 in
theorem gq_X8_nest_X8_recordOf_128 : GoodIn wq_X8_nest (wsV RX8 128 RX8 yX8_recordOf wq_X8_recordOf) := goodIn_app (goodIn_r _ [6, 7, 8, 9] rfl rfl) (goodIn_ca (goodIn_r _ [42, 43] rfl rfl) gs_wq_X8_nest_wsX80)
set_option maxRecDepth 20000 in
theorem gq_X8_nest_X8_makeOf_136 : GoodIn wq_X8_nest (va_wsS RX8 136 yX8_makeOf wq_X8_makeOf) := goodIn_app (goodIn_r _ [10, 11, 9] rfl rfl) (goodIn_r _ [44] rfl rfl)
theorem gs_wq_X8_nest_wsX10 : GoodIn wq_X8_nest wsX10 := fun w h => ⟨List.mem_cons_of_mem _ (List.mem_append_left _ (List.mem_append_left _ (List.mem_append_left _ (List.mem_append_left _ (List.mem_append_right _ h))))), (gt_wsX10 w h).2⟩
set_option maxRecDepth 20000 in
theorem gq_X8_nest_X8_fieldOf_100 : GoodIn wq_X8_nest (wsV RX8 100 RX8 yX8_fieldOf wq_X8_fieldOf) := goodIn_app (goodIn_r _ [12, 13, 14, 9] rfl rfl) (goodIn_ca (goodIn_ca (goodIn_r _ [45, 1, 10, 11, 9, 46, 47, 48, 49, 44, 50, 51] rfl rfl) gs_wq_X8_nest_wsX80) gs_wq_X8_nest_wsX10)
theorem gs_wq_X8_nest_wsX30 : GoodIn wq_X8_nest wsX30 := fun w h => ⟨List.mem_cons_of_mem _ (List.mem_append_left _ (List.mem_append_left _ (List.mem_append_left _ (List.mem_append_right _ h)))), (gt_wsX30 w h).2⟩
theorem gs_wq_X8_nest_wsX50 : GoodIn wq_X8_nest wsX50 := fun w h => ⟨List.mem_cons_of_mem _ (List.mem_append_left _ (List.mem_append_left _ (List.mem_append_right _ h))), (gt_wsX50 w h).2⟩
theorem gs_wq_X8_nest_wsX20 : GoodIn wq_X8_nest wsX20 := fun w h => ⟨List.mem_cons_of_mem _ (List.mem_append_left _ (List.mem_append_right _ h)), (gt_wsX20 w h).2⟩
theorem gs_wq_X8_nest_wsX00 : GoodIn wq_X8_nest wsX00 := fun w h => ⟨List.mem_cons_of_mem _ (List.mem_append_left _ (List.mem_append_left _ (List.mem_append_left _ (List.mem_append_left _ (List.mem_append_left _ (List.mem_append_right _ h)))))), (gt_wsX00 w h).2⟩
set_option maxRecDepth 20000 in
theorem gq_X8_nest_X3_isSound_144 : GoodIn wq_X8_nest (wsV RX8 144 RX3 yX3_isSound wq_X3_isSound) := goodIn_app (goodIn_r _ [15, 16, 17, 18] rfl rfl) (goodIn_ca (goodIn_ca (goodIn_ca (goodIn_ca (goodIn_ca (goodIn_r _ [52, 53, 54, 55, 31, 32, 26, 56, 57, 58, 18, 59, 60, 61, 62, 63, 64, 65, 66, 67, 68, 69, 70, 71, 49, 72, 73, 74, 75, 76, 11, 9, 77, 78, 79, 80, 81, 82, 83, 84, 85, 86, 87, 88, 89, 90, 91, 92, 93, 94, 95, 96, 97, 98, 99, 100, 101, 102, 103, 104, 105, 106, 47, 48, 50, 51, 107, 108, 109, 110, 111, 112, 113, 114, 115, 116, 117, 118, 119, 120, 121, 122, 123, 124, 125, 126, 127, 128, 129, 130, 131, 132, 133, 134, 135, 136, 137, 138, 139, 140, 141, 44, 142] rfl rfl) gs_wq_X8_nest_wsX30) gs_wq_X8_nest_wsX50) gs_wq_X8_nest_wsX20) gs_wq_X8_nest_wsX00) gs_wq_X8_nest_wsX10)
theorem gs_wq_X8_nest_wsX40 : GoodIn wq_X8_nest wsX40 := fun w h => ⟨List.mem_cons_of_mem _ (List.mem_append_right _ h), (gt_wsX40 w h).2⟩
set_option maxRecDepth 20000 in
theorem gq_X8_nest_X4_rewrite_174 : GoodIn wq_X8_nest (wsV RX8 174 RX4 yX4_rewrite wq_X4_rewrite) := goodIn_app (goodIn_r _ [19, 20, 21, 22] rfl rfl) (goodIn_ca (goodIn_ca (goodIn_ca (goodIn_ca (goodIn_ca (goodIn_r _ [143, 144, 145, 146, 147, 22, 148, 149, 150, 31, 32, 26, 151, 37, 38, 152, 153, 154, 155, 70, 71, 49, 156, 66, 67, 68, 157, 24, 25, 59, 60, 158, 130, 101, 102, 159, 160, 161, 103, 104, 162, 163, 164, 165, 28, 29, 166, 116, 117, 113, 167, 11, 9, 168, 169, 170, 171, 172, 173, 174, 34, 35, 175, 122, 123, 176, 177, 178, 179, 180, 181, 182, 111, 112, 183, 184, 185, 140, 128, 127, 44, 186, 81, 82, 83, 84, 85, 86, 87, 88, 89, 90, 91, 92, 93, 94, 95, 96, 97, 98, 99, 100, 105, 106, 47, 48, 50, 51, 187, 134, 188, 189] rfl rfl) gs_wq_X8_nest_wsX40) gs_wq_X8_nest_wsX20) gs_wq_X8_nest_wsX00) gs_wq_X8_nest_wsX50) gs_wq_X8_nest_wsX10)
set_option maxRecDepth 20000 in
theorem gq_X8_nest_X5_cut_83 : GoodIn wq_X8_nest (wsV RX8 83 RX5 yX5_cut wq_X5_cut) := goodIn_app (goodIn_r _ [23, 24, 25, 26] rfl rfl) (goodIn_ca (goodIn_r _ [189, 60] rfl rfl) gs_wq_X8_nest_wsX50)
set_option maxRecDepth 20000 in
theorem gq_X8_nest_X5_pushKey_152 : GoodIn wq_X8_nest (wsV RX8 152 RX5 yX5_pushKey wq_X5_pushKey) := goodIn_app (goodIn_r _ [27, 28, 29, 26] rfl rfl) (goodIn_ca (goodIn_ca (goodIn_r _ [179, 180, 181, 34, 35, 26, 182, 111, 112, 113, 183, 184, 185, 159, 160, 161, 162, 60, 104, 140, 128] rfl rfl) gs_wq_X8_nest_wsX00) gs_wq_X8_nest_wsX50)
set_option maxRecDepth 20000 in
theorem gq_X8_nest_X5_size_76 : GoodIn wq_X8_nest (wsV RX8 76 RX5 yX5_size wq_X5_size) := goodIn_app (goodIn_r _ [30, 31, 32, 26] rfl rfl) (goodIn_ca (goodIn_r _ [59, 60] rfl rfl) gs_wq_X8_nest_wsX50)
set_option maxRecDepth 20000 in
theorem gq_X8_nest_X5_pushVarint_168 : GoodIn wq_X8_nest (wsV RX8 168 RX5 yX5_pushVarint wq_X5_pushVarint) := goodIn_app (goodIn_r _ [33, 34, 35, 26] rfl rfl) (goodIn_ca (goodIn_r _ [183, 184, 185, 159, 160, 161, 26, 162, 60, 104] rfl rfl) gs_wq_X8_nest_wsX50)
set_option maxRecDepth 20000 in
theorem gq_X8_nest_X5_append_171 : GoodIn wq_X8_nest (wsV RX8 171 RX5 yX5_append wq_X5_append) := goodIn_app (goodIn_r _ [36, 37, 38, 26] rfl rfl) (goodIn_ca (goodIn_r _ [158, 130, 101, 102, 26, 159, 160, 161, 103, 60, 104, 162] rfl rfl) gs_wq_X8_nest_wsX50)
set_option maxRecDepth 20000 in
theorem gq_X8_nest_X8_settle_160 : GoodIn wq_X8_nest (wsV RX8 160 RX8 yX8_settle wq_X8_settle) := goodIn_app (goodIn_r _ [39, 40, 41, 9] rfl rfl) (goodIn_ca (goodIn_ca (goodIn_ca (goodIn_ca (goodIn_ca (goodIn_ca (goodIn_r _ [190, 3, 5, 4, 191, 146, 147, 22, 30, 31, 32, 26, 192, 193, 194, 148, 149, 150, 151, 37, 38, 152, 153, 154, 155, 70, 71, 49, 156, 66, 67, 68, 157, 24, 25, 59, 60, 158, 130, 101, 102, 159, 160, 161, 103, 104, 162, 163, 164, 165, 28, 29, 166, 116, 117, 113, 167, 11, 9, 168, 169, 170, 171, 172, 173, 174, 34, 35, 175, 122, 123, 176, 177, 178, 179, 180, 181, 182, 111, 112, 183, 184, 185, 140, 128, 127, 44, 186, 81, 82, 83, 84, 85, 86, 87, 88, 89, 90, 91, 92, 93, 94, 95, 96, 97, 98, 99, 100, 105, 106, 47, 48, 50, 51, 187, 134, 188, 189, 195] rfl rfl) gs_wq_X8_nest_wsX80) gs_wq_X8_nest_wsX40) gs_wq_X8_nest_wsX20) gs_wq_X8_nest_wsX00) gs_wq_X8_nest_wsX50) gs_wq_X8_nest_wsX10)
set_option maxHeartbeats 4000000 in
set_option maxRecDepth 100000 in
theorem c_X8_nest (l : Launch) (dC : Nat → ClassId) (dI : Nat → Nat → Nat) (ka ad : Nat → Nat) (ct : Nat → ClassId) (h0 : Nat) (p0 : Int32) (p1 : Int32) (p2 : Int32) (p3 : Int32) (st st' : CS) (r : Int32) (hf : fX8_nest h0 p0 p1 p2 p3 st = some (r, st')) (sz : Nat) : Met l yX8_nest wq_X8_nest ({ frames := 54, cells := 0, slots := 0, locals := 1507 }) (va_Pc [.ref (ad h0), .int p0, .int p1, .int p2, .int p3] (PrC (dC, dI) ct ka ad st sz)) (va_Qi (fun r' (_ : Unit) => r' = r) (fun _ => CB (dC, dI) ct ka ad st' (aC ad st sz)) (aC ad st sz)) 0 0 (aC ad st sz) := by
  refine Met.ofW (cc := cX8_nest) (maxL := 10) (ret := (some .int)) (by decide) rfl ?_
  intro p e s m args below meth c s₁ B hml hv
  obtain ⟨rfl, hsz, hw0, hK, hN, hZ, hC, hR, hL, hw1, hw2⟩ := hv
  have hx := B.exec
  have hb := B.bytes
  have hr := B.returns
  have hts := atoms_spec (ws := wq_X8_nest) B.pre
  have hown : s.vm.findClass RX8 = some m.cls := findClass_of_methodNamed B.named
  have iRX8 : ∀ w ∈ u_ws RX8 TX8 12, w ∈ wq_X8_nest := fun w h => List.mem_cons_of_mem _ (List.mem_append_left _ (List.mem_append_left _ (List.mem_append_left _ (List.mem_append_left _ (List.mem_append_left _ (List.mem_append_left _ (List.mem_append_right _ h)))))))
  have iRX0 : ∀ w ∈ u_ws RX0 TX0 7, w ∈ wq_X8_nest := fun w h => List.mem_cons_of_mem _ (List.mem_append_left _ (List.mem_append_left _ (List.mem_append_left _ (List.mem_append_left _ (List.mem_append_left _ (List.mem_append_right _ h))))))
  subst hsz
  have hp : Cp (dC, dI) ka ad ct (aC ad st s.heap.size) s.heap st s.heap [] := ⟨fun i a b => ⟨hw0 i a b, Or.inl ⟨i, a, b, rfl⟩⟩, va_S.rf, hw1, hw2⟩
  generalize hAe : aC ad st s.heap.size = A at hp hZ hC ⊢
  have hA : ∀ q : Nat, s.heap.size ≤ q → A q := fun q h => by rw [← hAe]; exact Or.inr h
  have hl := lv_entry ([.ref (ad h0), .int p0, .int p1, .int p2, .int p3]) (n := 10) (Nat.le_of_ble_eq_true rfl)
  rw [lg_entry_eq]
  generalize (lg_sl ([.ref (ad h0), .int p0, .int p1, .int p2, .int p3]) ++ List.replicate (10 - (lg_sl ([.ref (ad h0), .int p0, .int p1, .int p2, .int p3])).length) Slot.unset).toArray = ls at hl ⊢
  have hl : lv_has ls 10 [(0, .ref (ad h0)), (1, .int p0), (2, .int p1), (3, .int p2), (4, .int p3)] := hl
  unfold fX8_nest at hf
  refine lv_aload_n hx hb dX8_nest_0 rfl (lv_at hl 0 rfl) ?_
  refine lv_iload_n hx hb dX8_nest_1 rfl (lv_at hl 1 rfl) ?_
  obtain ⟨hk_1, hf⟩ := gd_some hf
  obtain ⟨r_4, st_2, hc_3, hf⟩ := bnd_some hf
  refine q_cq hp hA (va_runV (As := [.int p0]) (rest := []) ⟨hx, hb, hml, hown, hts⟩ (c_X8_recordOf l dC dI ka ad ct h0 p0 _ _ _ hc_3 _) (cwV 1 hts gq_X8_nest_X8_recordOf_128 rfl rfl rfl (by decide +kernel) ⟨Nat.le_of_ble_eq_true rfl, Nat.le_of_ble_eq_true rfl⟩) ⟨PrC.blind _, q_rv10 hK hp hC hk_1, q_pre hp hK hN hZ hC hR hL hA⟩ rfl rfl hl.1 rfl (lv_room (Nat.le_of_ble_eq_true rfl)) dX8_nest_2 ⟨Nat.le_of_ble_eq_true rfl, Nat.le_of_ble_eq_true rfl⟩) (fun H locs hp => ?_)
  have hk_1 : qk st_2 h0 = 11 := by rw [(mo_X8_recordOf h0 p0 _ _ _ hc_3).2.2.1]; exact hk_1
  refine o_astore (i := 5) (lv' := [(5, va_rf (Option.map ad r_4)), (0, .ref (ad h0)), (1, .int p0), (2, .int p1), (3, .int p2), (4, .int p3)]) hx hb dX8_nest_5 hl (by decide) rfl (fun ls hl => ?_)
  refine lv_aload_n hx hb dX8_nest_7 rfl (lv_at hl 1 rfl) ?_
  refine lv_iload hx hb dX8_nest_8 (lv_at hl 5 rfl) ?_
  obtain ⟨r_7, st_5, hc_6, hf⟩ := bnd_some hf
  refine q_cq hp hA (va_runV (As := [.int p3]) (rest := []) ⟨hx, hb, hml, hown, hts⟩ (c_X8_recordOf l dC dI ka ad ct h0 p3 _ _ _ hc_6 _) (cwV 1 hts gq_X8_nest_X8_recordOf_128 rfl rfl rfl (by decide +kernel) ⟨Nat.le_of_ble_eq_true rfl, Nat.le_of_ble_eq_true rfl⟩) ⟨PrC.blind _, q_rv10 hK hp hC hk_1, q_pre hp hK hN hZ hC hR hL hA⟩ rfl rfl hl.1 rfl (lv_room (Nat.le_of_ble_eq_true rfl)) dX8_nest_10 ⟨Nat.le_of_ble_eq_true rfl, Nat.le_of_ble_eq_true rfl⟩) (fun H locs hp => ?_)
  have hk_1 : qk st_5 h0 = 11 := by rw [(mo_X8_recordOf h0 p3 _ _ _ hc_6).2.2.1]; exact hk_1
  refine o_astore (i := 6) (lv' := [(6, va_rf (Option.map ad r_7)), (5, va_rf (Option.map ad r_4)), (0, .ref (ad h0)), (1, .int p0), (2, .int p1), (3, .int p2), (4, .int p3)]) hx hb dX8_nest_13 hl (by decide) (by simp [rf_cat, vc_i, vc_l, vc_r, vc_n]) (fun ls hl => ?_)
  refine lv_aload_n hx hb dX8_nest_15 rfl (lv_at hl 2 rfl) ?_
  refine q_gp (ci := 10) (C := RX8) (T := TX8) (N := 12) (k := 2) hx hb hts iRX8 hown hK hp hk_1 (by decide) rfl rfl (by decide) rfl (Or.inl (hts (.fieldLink RX8 24 "RecordBench" "makes" "[LRecordBench$Make;") (by decide +kernel))) (fun _ h9 => h9) dX8_nest_16 ?_
  refine lv_iload_n hx hb dX8_nest_19 rfl (lv_at hl 4 rfl) ?_
  obtain ⟨r_10, st_8, hc_9, hf⟩ := bnd_some hf
  refine q_cq hp hA (va_runS (As := [va_rf (Option.map ad (qP st_5 h0 2)), .int p1]) (rest := []) ⟨hx, hb, hml, hown, hts⟩ (c_X8_makeOf l dC dI ka ad ct (qP st_5 h0 2) p1 _ _ _ hc_9 _) (va_cwS 2 hts gq_X8_nest_X8_makeOf_136 rfl rfl rfl (by decide +kernel) ⟨Nat.le_of_ble_eq_true rfl, Nat.le_of_ble_eq_true rfl⟩) ⟨PrC.blind _, q_pre hp hK hN hZ hC hR hL hA⟩ rfl rfl hl.1 rfl (lv_room (Nat.le_of_ble_eq_true rfl)) dX8_nest_20 ⟨Nat.le_of_ble_eq_true rfl, Nat.le_of_ble_eq_true rfl⟩) (fun H locs hp => ?_)
  have hk_1 : qk st_8 h0 = 11 := by rw [(mo_X8_makeOf (qP st_5 h0 2) p1 _ _ _ hc_9).2.2.1]; exact hk_1
  refine o_astore (i := 7) (lv' := [(7, va_rf (Option.map ad r_10)), (6, va_rf (Option.map ad r_7)), (5, va_rf (Option.map ad r_4)), (0, .ref (ad h0)), (1, .int p0), (2, .int p1), (3, .int p2), (4, .int p3)]) hx hb dX8_nest_23 hl (by decide) (by simp [rf_cat, vc_i, vc_l, vc_r, vc_n]) (fun ls hl => ?_)
  refine lv_aload_n hx hb dX8_nest_25 rfl (lv_at hl 3 rfl) ?_
  refine lv_iload_n hx hb dX8_nest_26 rfl (lv_at hl 5 rfl) ?_
  refine lv_iload_n hx hb dX8_nest_27 rfl (lv_at hl 6 rfl) ?_
  obtain ⟨r_13, st_11, hc_12, hf⟩ := bnd_some hf
  refine q_cq hp hA (va_runV (As := [.int p1, .int p2]) (rest := []) ⟨hx, hb, hml, hown, hts⟩ (c_X8_fieldOf l dC dI ka ad ct h0 p1 p2 _ _ _ hc_12 _) (cwV 2 hts gq_X8_nest_X8_fieldOf_100 rfl rfl rfl (by decide +kernel) ⟨Nat.le_of_ble_eq_true rfl, Nat.le_of_ble_eq_true rfl⟩) ⟨PrC.blind _, q_rv10 hK hp hC hk_1, q_pre hp hK hN hZ hC hR hL hA⟩ rfl rfl hl.1 rfl (lv_room (Nat.le_of_ble_eq_true rfl)) dX8_nest_28 ⟨Nat.le_of_ble_eq_true rfl, Nat.le_of_ble_eq_true rfl⟩) (fun H locs hp => ?_)
  have hk_1 : qk st_11 h0 = 11 := by rw [(mo_X8_fieldOf h0 p1 p2 _ _ _ hc_12).2.2.1]; exact hk_1
  refine o_astore (i := 8) (lv' := [(8, va_rf (Option.map ad r_13)), (7, va_rf (Option.map ad r_10)), (6, va_rf (Option.map ad r_7)), (5, va_rf (Option.map ad r_4)), (0, .ref (ad h0)), (1, .int p0), (2, .int p1), (3, .int p2), (4, .int p3)]) hx hb dX8_nest_31 hl (by decide) (by simp [rf_cat, vc_i, vc_l, vc_r, vc_n]) (fun ls hl => ?_)
  refine o_aload hx hb dX8_nest_33 (lv_at hl 3 rfl) ?_
  refine o_ifnull (tgt := 69) hx hb dX8_nest_35 (by decide) (fun c_14 => ?_) (fun c_14 => ?_)
  · have hf := pif_t c_14 hf
    refine lv_iconst (v := (-1)) hx hb dX8_nest_69 (by decide) ?_
    obtain ⟨e1, e2⟩ := pr_some hf
    exact W.iret (v := (-1)) hx hb hr (fun t ht hW => ⟨⟨(-1), (), rfl, e1, Cp.end e2 hp ht⟩, hp.2.1.F ht⟩) hp.2.1.2.2 dX8_nest_70
  · have hf := pif_f c_14 hf
    refine o_aload hx hb dX8_nest_38 (lv_at hl 2 rfl) ?_
    refine o_ifnull (tgt := 69) hx hb dX8_nest_40 (by decide) (fun c_15 => ?_) (fun c_15 => ?_)
    · have hf := pif_t c_15 hf
      refine lv_iconst (v := (-1)) hx hb dX8_nest_69 (by decide) ?_
      obtain ⟨e1, e2⟩ := pr_some hf
      exact W.iret (v := (-1)) hx hb hr (fun t ht hW => ⟨⟨(-1), (), rfl, e1, Cp.end e2 hp ht⟩, hp.2.1.F ht⟩) hp.2.1.2.2 dX8_nest_70
    · have hf := pif_f c_15 hf
      refine o_aload hx hb dX8_nest_43 (lv_at hl 1 rfl) ?_
      refine o_ifnull (tgt := 69) hx hb dX8_nest_45 (by decide) (fun c_16 => ?_) (fun c_16 => ?_)
      · have hf := pif_t c_16 hf
        refine lv_iconst (v := (-1)) hx hb dX8_nest_69 (by decide) ?_
        obtain ⟨e1, e2⟩ := pr_some hf
        exact W.iret (v := (-1)) hx hb hr (fun t ht hW => ⟨⟨(-1), (), rfl, e1, Cp.end e2 hp ht⟩, hp.2.1.F ht⟩) hp.2.1.2.2 dX8_nest_70
      · have hf := pif_f c_16 hf
        refine o_aload hx hb dX8_nest_48 (lv_at hl 0 rfl) ?_
        refine o_ifnull (tgt := 69) hx hb dX8_nest_50 (by decide) (fun c_17 => ?_) (fun c_17 => ?_)
        · have hf := pif_t c_17 hf
          refine lv_iconst (v := (-1)) hx hb dX8_nest_69 (by decide) ?_
          obtain ⟨e1, e2⟩ := pr_some hf
          exact W.iret (v := (-1)) hx hb hr (fun t ht hW => ⟨⟨(-1), (), rfl, e1, Cp.end e2 hp ht⟩, hp.2.1.F ht⟩) hp.2.1.2.2 dX8_nest_70
        · have hf := pif_f c_17 hf
          refine o_aload hx hb dX8_nest_53 (lv_at hl 0 rfl) ?_
          obtain ⟨a_18, ha_19, hf⟩ := ono_some hf
          refine o_at ha_19 ?_
          obtain ⟨hk_20, hf⟩ := gd_some hf
          refine q_gi (ci := 2) (C := RX0) (T := TX0) (N := 7) (k := 1) hx hb hts iRX0 hown hK hp hk_20 (by decide) rfl rfl (by decide) rfl (Or.inr ⟨_, va_Nw.use rfl (hN.1 (.fieldLinkNest RX8 104 "RecordBench$Field" "kind" "I" "RecordBench") (by decide +kernel))⟩) (fun _ h9 => h9) dX8_nest_55 ?_
          refine lv_bipush (v := 6) hx hb dX8_nest_58 (by decide) ?_
          refine lv_icmp_ne (tgt := 69) hx hb dX8_nest_60 (by decide) (fun c_21 => ?_) (fun c_21 => ?_)
          · have hf := pif_f c_21 hf
            refine lv_iconst (v := (-1)) hx hb dX8_nest_69 (by decide) ?_
            obtain ⟨e1, e2⟩ := pr_some hf
            exact W.iret (v := (-1)) hx hb hr (fun t ht hW => ⟨⟨(-1), (), rfl, e1, Cp.end e2 hp ht⟩, hp.2.1.F ht⟩) hp.2.1.2.2 dX8_nest_70
          · have hf := pif_t c_21 hf
            refine lv_iload_n hx hb dX8_nest_63 rfl (lv_at hl 5 rfl) ?_
            refine lv_iload hx hb dX8_nest_64 (lv_at hl 8 rfl) ?_
            refine lv_icmp_ne (tgt := 71) hx hb dX8_nest_66 (by decide) (fun c_22 => ?_) (fun c_22 => ?_)
            · have hf := pif_f c_22 hf
              refine lv_aload_n hx hb dX8_nest_71 rfl (lv_at hl 4 rfl) ?_
              refine q_gp (ci := 10) (C := RX8) (T := TX8) (N := 12) (k := 2) hx hb hts iRX8 hown hK hp hk_1 (by decide) rfl rfl (by decide) rfl (Or.inl (hts (.fieldLink RX8 24 "RecordBench" "makes" "[LRecordBench$Make;") (by decide +kernel))) (fun _ h9 => h9) dX8_nest_72 ?_
              refine o_aload hx hb dX8_nest_75 (lv_at hl 0 rfl) ?_
              refine o_at ha_19 ?_
              refine q_gi (ci := 2) (C := RX0) (T := TX0) (N := 7) (k := 3) hx hb hts iRX0 hown hK hp hk_20 (by decide) rfl rfl (by decide) rfl (Or.inr ⟨_, va_Nw.use rfl (hN.1 (.fieldLinkNest RX8 112 "RecordBench$Field" "rec" "I" "RecordBench") (by decide +kernel))⟩) (fun _ h9 => h9) dX8_nest_77 ?_
              obtain ⟨r_25, st_23, hc_24, hf⟩ := bnd_some hf
              refine q_cq hp hA (va_runS (As := [va_rf (Option.map ad (qP st_11 h0 2)), .int (qI st_11 a_18 3)]) (rest := []) ⟨hx, hb, hml, hown, hts⟩ (c_X8_makeOf l dC dI ka ad ct (qP st_11 h0 2) (qI st_11 a_18 3) _ _ _ hc_24 _) (va_cwS 2 hts gq_X8_nest_X8_makeOf_136 rfl rfl rfl (by decide +kernel) ⟨Nat.le_of_ble_eq_true rfl, Nat.le_of_ble_eq_true rfl⟩) ⟨PrC.blind _, q_pre hp hK hN hZ hC hR hL hA⟩ rfl rfl hl.1 rfl (lv_room (Nat.le_of_ble_eq_true rfl)) dX8_nest_80 ⟨Nat.le_of_ble_eq_true rfl, Nat.le_of_ble_eq_true rfl⟩) (fun H locs hp => ?_)
              have hk_1 : qk st_23 h0 = 11 := by rw [(mo_X8_makeOf (qP st_11 h0 2) (qI st_11 a_18 3) _ _ _ hc_24).2.2.1]; exact hk_1
              have hk_20 : qk st_23 a_18 = 3 := by rw [(mo_X8_makeOf (qP st_11 h0 2) (qI st_11 a_18 3) _ _ _ hc_24).2.2.1]; exact hk_20
              refine o_astore (i := 9) (lv' := [(9, va_rf (Option.map ad r_25)), (8, va_rf (Option.map ad r_13)), (7, va_rf (Option.map ad r_10)), (6, va_rf (Option.map ad r_7)), (5, va_rf (Option.map ad r_4)), (0, .ref (ad h0)), (1, .int p0), (2, .int p1), (3, .int p2), (4, .int p3)]) hx hb dX8_nest_83 hl (by decide) (by simp [rf_cat, vc_i, vc_l, vc_r, vc_n]) (fun ls hl => ?_)
              refine o_aload hx hb dX8_nest_85 (lv_at hl 0 rfl) ?_
              refine o_ifnonnull (tgt := 92) hx hb dX8_nest_87 (by decide) (fun c_26 => ?_) (fun c_26 => ?_)
              · have hf := pif_f c_26 hf
                refine lv_aload_n hx hb dX8_nest_92 rfl (lv_at hl 5 rfl) ?_
                refine q_gp (ci := 10) (C := RX8) (T := TX8) (N := 12) (k := 4) hx hb hts iRX8 hown hK hp hk_1 (by decide) rfl rfl (by decide) rfl (Or.inl (hts (.fieldLink RX8 42 "RecordBench" "reader" "LRecordBench$RecordReader;") (by decide +kernel))) (fun _ h9 => h9) dX8_nest_93 ?_
                refine o_aload hx hb dX8_nest_96 (lv_at hl 4 rfl) ?_
                refine o_aload hx hb dX8_nest_98 (lv_at hl 2 rfl) ?_
                obtain ⟨a_27, ha_28, hf⟩ := ono_some hf
                refine o_at2 ha_28 ?_
                obtain ⟨hk_29, hf⟩ := gd_some hf
                obtain ⟨r_32, st_30, hc_31, hf⟩ := bnd_some hf
                refine q_ci hp hA (va_runV (As := [va_rf (Option.map ad r_4), va_rf (Option.map ad r_10)]) (rest := []) ⟨hx, hb, hml, hown, hts⟩ (c_X3_isSound l dC dI ka ad ct a_27 r_4 r_10 _ _ _ hc_31 _) (cwV 2 hts gq_X8_nest_X3_isSound_144 rfl rfl rfl (by decide +kernel) ⟨Nat.le_of_ble_eq_true rfl, Nat.le_of_ble_eq_true rfl⟩) ⟨PrC.blind _, q_rv5 hK hp hC hk_29, q_pre hp hK hN hZ hC hR hL hA⟩ rfl rfl hl.1 rfl (lv_room (Nat.le_of_ble_eq_true rfl)) dX8_nest_100 ⟨Nat.le_of_ble_eq_true rfl, Nat.le_of_ble_eq_true rfl⟩) (fun H locs hp => ?_)
                have hk_1 : qk st_30 h0 = 11 := by rw [(mo_X3_isSound a_27 r_4 r_10 _ _ _ hc_31).2.2.1]; exact hk_1
                have hk_20 : qk st_30 a_18 = 3 := by rw [(mo_X3_isSound a_27 r_4 r_10 _ _ _ hc_31).2.2.1]; exact hk_20
                have hk_29 : qk st_30 a_27 = 6 := by rw [(mo_X3_isSound a_27 r_4 r_10 _ _ _ hc_31).2.2.1]; exact hk_29
                refine lv_if_eq (tgt := 120) hx hb dX8_nest_103 (by decide) (fun c_33 => ?_) (fun c_33 => ?_)
                · have hf := pif_t c_33 hf
                  refine lv_bipush (v := (-2)) hx hb dX8_nest_120 (by decide) ?_
                  obtain ⟨e1, e2⟩ := pr_some hf
                  exact W.iret (v := (-2)) hx hb hr (fun t ht hW => ⟨⟨(-2), (), rfl, e1, Cp.end e2 hp ht⟩, hp.2.1.F ht⟩) hp.2.1.2.2 dX8_nest_122
                · have hf := pif_f c_33 hf
                  refine lv_aload_n hx hb dX8_nest_106 rfl (lv_at hl 5 rfl) ?_
                  refine q_gp (ci := 10) (C := RX8) (T := TX8) (N := 12) (k := 4) hx hb hts iRX8 hown hK hp hk_1 (by decide) rfl rfl (by decide) rfl (Or.inl (hts (.fieldLink RX8 42 "RecordBench" "reader" "LRecordBench$RecordReader;") (by decide +kernel))) (fun _ h9 => h9) dX8_nest_107 ?_
                  refine o_aload hx hb dX8_nest_110 (lv_at hl 3 rfl) ?_
                  refine o_aload hx hb dX8_nest_112 (lv_at hl 0 rfl) ?_
                  obtain ⟨a_34, ha_35, hf⟩ := ono_some hf
                  refine o_at2 ha_35 ?_
                  obtain ⟨hk_36, hf⟩ := gd_some hf
                  obtain ⟨r_39, st_37, hc_38, hf⟩ := bnd_some hf
                  refine q_ci hp hA (va_runV (As := [va_rf (Option.map ad r_7), va_rf (Option.map ad r_25)]) (rest := []) ⟨hx, hb, hml, hown, hts⟩ (c_X3_isSound l dC dI ka ad ct a_34 r_7 r_25 _ _ _ hc_38 _) (cwV 2 hts gq_X8_nest_X3_isSound_144 rfl rfl rfl (by decide +kernel) ⟨Nat.le_of_ble_eq_true rfl, Nat.le_of_ble_eq_true rfl⟩) ⟨PrC.blind _, q_rv5 hK hp hC hk_36, q_pre hp hK hN hZ hC hR hL hA⟩ rfl rfl hl.1 rfl (lv_room (Nat.le_of_ble_eq_true rfl)) dX8_nest_114 ⟨Nat.le_of_ble_eq_true rfl, Nat.le_of_ble_eq_true rfl⟩) (fun H locs hp => ?_)
                  have hk_1 : qk st_37 h0 = 11 := by rw [(mo_X3_isSound a_34 r_7 r_25 _ _ _ hc_38).2.2.1]; exact hk_1
                  have hk_20 : qk st_37 a_18 = 3 := by rw [(mo_X3_isSound a_34 r_7 r_25 _ _ _ hc_38).2.2.1]; exact hk_20
                  have hk_29 : qk st_37 a_27 = 6 := by rw [(mo_X3_isSound a_34 r_7 r_25 _ _ _ hc_38).2.2.1]; exact hk_29
                  have hk_36 : qk st_37 a_34 = 6 := by rw [(mo_X3_isSound a_34 r_7 r_25 _ _ _ hc_38).2.2.1]; exact hk_36
                  refine lv_if_ne (tgt := 123) hx hb dX8_nest_117 (by decide) (fun c_40 => ?_) (fun c_40 => ?_)
                  · have hf := pif_f c_40 hf
                    refine lv_aload_n hx hb dX8_nest_123 rfl (lv_at hl 5 rfl) ?_
                    refine q_gp (ci := 10) (C := RX8) (T := TX8) (N := 12) (k := 5) hx hb hts iRX8 hown hK hp hk_1 (by decide) rfl rfl (by decide) rfl (Or.inl (hts (.fieldLink RX8 49 "RecordBench" "writer" "LRecordBench$RecordWriter;") (by decide +kernel))) (fun _ h9 => h9) dX8_nest_124 ?_
                    refine o_aload hx hb dX8_nest_127 (lv_at hl 3 rfl) ?_
                    refine o_aload hx hb dX8_nest_129 (lv_at hl 0 rfl) ?_
                    refine lv_aload_n hx hb dX8_nest_131 rfl (lv_at hl 5 rfl) ?_
                    refine q_gp (ci := 10) (C := RX8) (T := TX8) (N := 12) (k := 8) hx hb hts iRX8 hown hK hp hk_1 (by decide) rfl rfl (by decide) rfl (Or.inl (hts (.fieldLink RX8 63 "RecordBench" "work" "LRecordBench$Row;") (by decide +kernel))) (fun _ h9 => h9) dX8_nest_132 ?_
                    obtain ⟨a_41, ha_42, hf⟩ := ono_some hf
                    refine o_at3 ha_42 ?_
                    obtain ⟨hk_43, hf⟩ := gd_some hf
                    obtain ⟨st_44, hc_45, hf⟩ := bnv_some hf
                    refine q_cv hp hA (va_runV (As := [va_rf (Option.map ad r_7), va_rf (Option.map ad r_25), va_rf (Option.map ad (qP st_37 h0 8))]) (rest := []) ⟨hx, hb, hml, hown, hts⟩ (c_X4_rewrite l dC dI ka ad ct a_41 r_7 r_25 (qP st_37 h0 8) _ _ hc_45 _) (cwV 3 hts gq_X8_nest_X4_rewrite_174 rfl rfl rfl (by decide +kernel) ⟨Nat.le_of_ble_eq_true rfl, Nat.le_of_ble_eq_true rfl⟩) ⟨PrC.blind _, q_rv6 hK hp hC hk_43, q_pre hp hK hN hZ hC hR hL hA⟩ rfl rfl hl.1 rfl (lv_room (Nat.le_of_ble_eq_true rfl)) dX8_nest_135 ⟨Nat.le_of_ble_eq_true rfl, Nat.le_of_ble_eq_true rfl⟩) (fun H locs hp => ?_)
                    have hk_1 : qk st_44 h0 = 11 := by rw [(mo_X4_rewrite a_41 r_7 r_25 (qP st_37 h0 8) _ _ hc_45).2.2.1]; exact hk_1
                    have hk_20 : qk st_44 a_18 = 3 := by rw [(mo_X4_rewrite a_41 r_7 r_25 (qP st_37 h0 8) _ _ hc_45).2.2.1]; exact hk_20
                    have hk_29 : qk st_44 a_27 = 6 := by rw [(mo_X4_rewrite a_41 r_7 r_25 (qP st_37 h0 8) _ _ hc_45).2.2.1]; exact hk_29
                    have hk_36 : qk st_44 a_34 = 6 := by rw [(mo_X4_rewrite a_41 r_7 r_25 (qP st_37 h0 8) _ _ hc_45).2.2.1]; exact hk_36
                    have hk_43 : qk st_44 a_41 = 7 := by rw [(mo_X4_rewrite a_41 r_7 r_25 (qP st_37 h0 8) _ _ hc_45).2.2.1]; exact hk_43
                    refine lv_aload_n hx hb dX8_nest_138 rfl (lv_at hl 5 rfl) ?_
                    refine q_gp (ci := 10) (C := RX8) (T := TX8) (N := 12) (k := 7) hx hb hts iRX8 hown hK hp hk_1 (by decide) rfl rfl (by decide) rfl (Or.inl (hts (.fieldLink RX8 60 "RecordBench" "fresh" "LRecordBench$Row;") (by decide +kernel))) (fun _ h9 => h9) dX8_nest_139 ?_
                    refine lv_iconst (v := 0) hx hb dX8_nest_142 (by decide) ?_
                    obtain ⟨a_47, ha_48, hf⟩ := ono_some hf
                    refine o_at1 ha_48 ?_
                    obtain ⟨hk_49, hf⟩ := gd_some hf
                    obtain ⟨r_52, st_50, hc_51, hf⟩ := bnd_some hf
                    refine q_ci hp hA (va_runV (As := [.int 0]) (rest := []) ⟨hx, hb, hml, hown, hts⟩ (c_X5_cut l dC dI ka ad ct a_47 0 _ _ _ hc_51 _) (cwV 1 hts gq_X8_nest_X5_cut_83 rfl rfl rfl (by decide +kernel) ⟨Nat.le_of_ble_eq_true rfl, Nat.le_of_ble_eq_true rfl⟩) ⟨PrC.blind _, q_rv7 hK hp hC hk_49, q_pre hp hK hN hZ hC hR hL hA⟩ rfl rfl hl.1 rfl (lv_room (Nat.le_of_ble_eq_true rfl)) dX8_nest_143 ⟨Nat.le_of_ble_eq_true rfl, Nat.le_of_ble_eq_true rfl⟩) (fun H locs hp => ?_)
                    have hk_1 : qk st_50 h0 = 11 := by rw [(mo_X5_cut a_47 0 _ _ _ hc_51).2.2.1]; exact hk_1
                    have hk_20 : qk st_50 a_18 = 3 := by rw [(mo_X5_cut a_47 0 _ _ _ hc_51).2.2.1]; exact hk_20
                    have hk_29 : qk st_50 a_27 = 6 := by rw [(mo_X5_cut a_47 0 _ _ _ hc_51).2.2.1]; exact hk_29
                    have hk_36 : qk st_50 a_34 = 6 := by rw [(mo_X5_cut a_47 0 _ _ _ hc_51).2.2.1]; exact hk_36
                    have hk_43 : qk st_50 a_41 = 7 := by rw [(mo_X5_cut a_47 0 _ _ _ hc_51).2.2.1]; exact hk_43
                    have hk_49 : qk st_50 a_47 = 8 := by rw [(mo_X5_cut a_47 0 _ _ _ hc_51).2.2.1]; exact hk_49
                    refine lv_pop hx hb dX8_nest_146 rfl ?_
                    refine lv_aload_n hx hb dX8_nest_147 rfl (lv_at hl 5 rfl) ?_
                    refine q_gp (ci := 10) (C := RX8) (T := TX8) (N := 12) (k := 7) hx hb hts iRX8 hown hK hp hk_1 (by decide) rfl rfl (by decide) rfl (Or.inl (hts (.fieldLink RX8 60 "RecordBench" "fresh" "LRecordBench$Row;") (by decide +kernel))) (fun _ h9 => h9) dX8_nest_148 ?_
                    refine o_aload hx hb dX8_nest_151 (lv_at hl 1 rfl) ?_
                    obtain ⟨a_53, ha_54, hf⟩ := ono_some hf
                    refine o_at1 ha_54 ?_
                    obtain ⟨hk_55, hf⟩ := gd_some hf
                    obtain ⟨st_56, hc_57, hf⟩ := bnv_some hf
                    refine q_cv hp hA (va_runV (As := [va_rf (Option.map ad r_13)]) (rest := []) ⟨hx, hb, hml, hown, hts⟩ (c_X5_pushKey l dC dI ka ad ct a_53 r_13 _ _ hc_57 _) (cwV 1 hts gq_X8_nest_X5_pushKey_152 rfl rfl rfl (by decide +kernel) ⟨Nat.le_of_ble_eq_true rfl, Nat.le_of_ble_eq_true rfl⟩) ⟨PrC.blind _, q_rv7 hK hp hC hk_55, q_pre hp hK hN hZ hC hR hL hA⟩ rfl rfl hl.1 rfl (lv_room (Nat.le_of_ble_eq_true rfl)) dX8_nest_153 ⟨Nat.le_of_ble_eq_true rfl, Nat.le_of_ble_eq_true rfl⟩) (fun H locs hp => ?_)
                    have hk_1 : qk st_56 h0 = 11 := by rw [(mo_X5_pushKey a_53 r_13 _ _ hc_57).2.2.1]; exact hk_1
                    have hk_20 : qk st_56 a_18 = 3 := by rw [(mo_X5_pushKey a_53 r_13 _ _ hc_57).2.2.1]; exact hk_20
                    have hk_29 : qk st_56 a_27 = 6 := by rw [(mo_X5_pushKey a_53 r_13 _ _ hc_57).2.2.1]; exact hk_29
                    have hk_36 : qk st_56 a_34 = 6 := by rw [(mo_X5_pushKey a_53 r_13 _ _ hc_57).2.2.1]; exact hk_36
                    have hk_43 : qk st_56 a_41 = 7 := by rw [(mo_X5_pushKey a_53 r_13 _ _ hc_57).2.2.1]; exact hk_43
                    have hk_49 : qk st_56 a_47 = 8 := by rw [(mo_X5_pushKey a_53 r_13 _ _ hc_57).2.2.1]; exact hk_49
                    have hk_55 : qk st_56 a_53 = 8 := by rw [(mo_X5_pushKey a_53 r_13 _ _ hc_57).2.2.1]; exact hk_55
                    refine lv_aload_n hx hb dX8_nest_156 rfl (lv_at hl 5 rfl) ?_
                    refine q_gp (ci := 10) (C := RX8) (T := TX8) (N := 12) (k := 7) hx hb hts iRX8 hown hK hp hk_1 (by decide) rfl rfl (by decide) rfl (Or.inl (hts (.fieldLink RX8 60 "RecordBench" "fresh" "LRecordBench$Row;") (by decide +kernel))) (fun _ h9 => h9) dX8_nest_157 ?_
                    refine lv_aload_n hx hb dX8_nest_160 rfl (lv_at hl 5 rfl) ?_
                    refine q_gp (ci := 10) (C := RX8) (T := TX8) (N := 12) (k := 8) hx hb hts iRX8 hown hK hp hk_1 (by decide) rfl rfl (by decide) rfl (Or.inl (hts (.fieldLink RX8 63 "RecordBench" "work" "LRecordBench$Row;") (by decide +kernel))) (fun _ h9 => h9) dX8_nest_161 ?_
                    obtain ⟨a_59, ha_60, hf⟩ := ono_some hf
                    refine o_at ha_60 ?_
                    obtain ⟨hk_61, hf⟩ := gd_some hf
                    obtain ⟨r_64, st_62, hc_63, hf⟩ := bnd_some hf
                    refine q_ci hp hA (va_runV (As := []) (rest := [va_rf (Option.map ad (qP st_56 h0 7))]) ⟨hx, hb, hml, hown, hts⟩ (c_X5_size l dC dI ka ad ct a_59 _ _ _ hc_63 _) (cwV 0 hts gq_X8_nest_X5_size_76 rfl rfl rfl (by decide +kernel) ⟨Nat.le_of_ble_eq_true rfl, Nat.le_of_ble_eq_true rfl⟩) ⟨PrC.blind _, q_rv7 hK hp hC hk_61, q_pre hp hK hN hZ hC hR hL hA⟩ rfl rfl hl.1 rfl (lv_room (by simp [rf_cat, vc_i, vc_l, vc_r, vc_n])) dX8_nest_164 ⟨Nat.le_of_ble_eq_true rfl, Nat.le_of_ble_eq_true rfl⟩) (fun H locs hp => ?_)
                    have hk_1 : qk st_62 h0 = 11 := by rw [(mo_X5_size a_59 _ _ _ hc_63).2.2.1]; exact hk_1
                    have hk_20 : qk st_62 a_18 = 3 := by rw [(mo_X5_size a_59 _ _ _ hc_63).2.2.1]; exact hk_20
                    have hk_29 : qk st_62 a_27 = 6 := by rw [(mo_X5_size a_59 _ _ _ hc_63).2.2.1]; exact hk_29
                    have hk_36 : qk st_62 a_34 = 6 := by rw [(mo_X5_size a_59 _ _ _ hc_63).2.2.1]; exact hk_36
                    have hk_43 : qk st_62 a_41 = 7 := by rw [(mo_X5_size a_59 _ _ _ hc_63).2.2.1]; exact hk_43
                    have hk_49 : qk st_62 a_47 = 8 := by rw [(mo_X5_size a_59 _ _ _ hc_63).2.2.1]; exact hk_49
                    have hk_55 : qk st_62 a_53 = 8 := by rw [(mo_X5_size a_59 _ _ _ hc_63).2.2.1]; exact hk_55
                    have hk_61 : qk st_62 a_59 = 8 := by rw [(mo_X5_size a_59 _ _ _ hc_63).2.2.1]; exact hk_61
                    refine lv_i2l (v := r_64.toInt64) hx hb dX8_nest_167 rfl ?_
                    obtain ⟨a_65, ha_66, hf⟩ := ono_some hf
                    refine o_at1 ha_66 ?_
                    obtain ⟨hk_67, hf⟩ := gd_some hf
                    obtain ⟨st_68, hc_69, hf⟩ := bnv_some hf
                    refine q_cv hp hA (va_runV (As := [.long r_64.toInt64]) (rest := []) ⟨hx, hb, hml, hown, hts⟩ (c_X5_pushVarint l dC dI ka ad ct a_65 r_64.toInt64 _ _ hc_69 _) (cwV 1 hts gq_X8_nest_X5_pushVarint_168 rfl rfl rfl (by decide +kernel) ⟨Nat.le_of_ble_eq_true rfl, Nat.le_of_ble_eq_true rfl⟩) ⟨PrC.blind _, q_rv7 hK hp hC hk_67, q_pre hp hK hN hZ hC hR hL hA⟩ rfl rfl hl.1 rfl (lv_room (Nat.le_of_ble_eq_true rfl)) dX8_nest_168 ⟨Nat.le_of_ble_eq_true rfl, Nat.le_of_ble_eq_true rfl⟩) (fun H locs hp => ?_)
                    have hk_1 : qk st_68 h0 = 11 := by rw [(mo_X5_pushVarint a_65 r_64.toInt64 _ _ hc_69).2.2.1]; exact hk_1
                    have hk_20 : qk st_68 a_18 = 3 := by rw [(mo_X5_pushVarint a_65 r_64.toInt64 _ _ hc_69).2.2.1]; exact hk_20
                    have hk_29 : qk st_68 a_27 = 6 := by rw [(mo_X5_pushVarint a_65 r_64.toInt64 _ _ hc_69).2.2.1]; exact hk_29
                    have hk_36 : qk st_68 a_34 = 6 := by rw [(mo_X5_pushVarint a_65 r_64.toInt64 _ _ hc_69).2.2.1]; exact hk_36
                    have hk_43 : qk st_68 a_41 = 7 := by rw [(mo_X5_pushVarint a_65 r_64.toInt64 _ _ hc_69).2.2.1]; exact hk_43
                    have hk_49 : qk st_68 a_47 = 8 := by rw [(mo_X5_pushVarint a_65 r_64.toInt64 _ _ hc_69).2.2.1]; exact hk_49
                    have hk_55 : qk st_68 a_53 = 8 := by rw [(mo_X5_pushVarint a_65 r_64.toInt64 _ _ hc_69).2.2.1]; exact hk_55
                    have hk_61 : qk st_68 a_59 = 8 := by rw [(mo_X5_pushVarint a_65 r_64.toInt64 _ _ hc_69).2.2.1]; exact hk_61
                    have hk_67 : qk st_68 a_65 = 8 := by rw [(mo_X5_pushVarint a_65 r_64.toInt64 _ _ hc_69).2.2.1]; exact hk_67
                    refine lv_aload_n hx hb dX8_nest_171 rfl (lv_at hl 5 rfl) ?_
                    refine q_gp (ci := 10) (C := RX8) (T := TX8) (N := 12) (k := 7) hx hb hts iRX8 hown hK hp hk_1 (by decide) rfl rfl (by decide) rfl (Or.inl (hts (.fieldLink RX8 60 "RecordBench" "fresh" "LRecordBench$Row;") (by decide +kernel))) (fun _ h9 => h9) dX8_nest_172 ?_
                    refine lv_aload_n hx hb dX8_nest_175 rfl (lv_at hl 5 rfl) ?_
                    refine q_gp (ci := 10) (C := RX8) (T := TX8) (N := 12) (k := 8) hx hb hts iRX8 hown hK hp hk_1 (by decide) rfl rfl (by decide) rfl (Or.inl (hts (.fieldLink RX8 63 "RecordBench" "work" "LRecordBench$Row;") (by decide +kernel))) (fun _ h9 => h9) dX8_nest_176 ?_
                    refine lv_iconst (v := 0) hx hb dX8_nest_179 (by decide) ?_
                    refine lv_aload_n hx hb dX8_nest_180 rfl (lv_at hl 5 rfl) ?_
                    refine q_gp (ci := 10) (C := RX8) (T := TX8) (N := 12) (k := 8) hx hb hts iRX8 hown hK hp hk_1 (by decide) rfl rfl (by decide) rfl (Or.inl (hts (.fieldLink RX8 63 "RecordBench" "work" "LRecordBench$Row;") (by decide +kernel))) (fun _ h9 => h9) dX8_nest_181 ?_
                    obtain ⟨a_71, ha_72, hf⟩ := ono_some hf
                    refine o_at ha_72 ?_
                    obtain ⟨hk_73, hf⟩ := gd_some hf
                    obtain ⟨r_76, st_74, hc_75, hf⟩ := bnd_some hf
                    refine q_ci hp hA (va_runV (As := []) (rest := [.int 0, va_rf (Option.map ad (qP st_68 h0 8)), va_rf (Option.map ad (qP st_68 h0 7))]) ⟨hx, hb, hml, hown, hts⟩ (c_X5_size l dC dI ka ad ct a_71 _ _ _ hc_75 _) (cwV 0 hts gq_X8_nest_X5_size_76 rfl rfl rfl (by decide +kernel) ⟨Nat.le_of_ble_eq_true rfl, Nat.le_of_ble_eq_true rfl⟩) ⟨PrC.blind _, q_rv7 hK hp hC hk_73, q_pre hp hK hN hZ hC hR hL hA⟩ rfl rfl hl.1 rfl (lv_room (by simp [rf_cat, vc_i, vc_l, vc_r, vc_n])) dX8_nest_184 ⟨Nat.le_of_ble_eq_true rfl, Nat.le_of_ble_eq_true rfl⟩) (fun H locs hp => ?_)
                    have hk_1 : qk st_74 h0 = 11 := by rw [(mo_X5_size a_71 _ _ _ hc_75).2.2.1]; exact hk_1
                    have hk_20 : qk st_74 a_18 = 3 := by rw [(mo_X5_size a_71 _ _ _ hc_75).2.2.1]; exact hk_20
                    have hk_29 : qk st_74 a_27 = 6 := by rw [(mo_X5_size a_71 _ _ _ hc_75).2.2.1]; exact hk_29
                    have hk_36 : qk st_74 a_34 = 6 := by rw [(mo_X5_size a_71 _ _ _ hc_75).2.2.1]; exact hk_36
                    have hk_43 : qk st_74 a_41 = 7 := by rw [(mo_X5_size a_71 _ _ _ hc_75).2.2.1]; exact hk_43
                    have hk_49 : qk st_74 a_47 = 8 := by rw [(mo_X5_size a_71 _ _ _ hc_75).2.2.1]; exact hk_49
                    have hk_55 : qk st_74 a_53 = 8 := by rw [(mo_X5_size a_71 _ _ _ hc_75).2.2.1]; exact hk_55
                    have hk_61 : qk st_74 a_59 = 8 := by rw [(mo_X5_size a_71 _ _ _ hc_75).2.2.1]; exact hk_61
                    have hk_67 : qk st_74 a_65 = 8 := by rw [(mo_X5_size a_71 _ _ _ hc_75).2.2.1]; exact hk_67
                    have hk_73 : qk st_74 a_71 = 8 := by rw [(mo_X5_size a_71 _ _ _ hc_75).2.2.1]; exact hk_73
                    obtain ⟨a_77, ha_78, hf⟩ := ono_some hf
                    refine o_at3 ha_78 ?_
                    obtain ⟨hk_79, hf⟩ := gd_some hf
                    obtain ⟨st_80, hc_81, hf⟩ := bnv_some hf
                    refine q_cv hp hA (va_runV (As := [va_rf (Option.map ad (qP st_68 h0 8)), .int 0, .int r_76]) (rest := []) ⟨hx, hb, hml, hown, hts⟩ (c_X5_append l dC dI ka ad ct a_77 (qP st_68 h0 8) 0 r_76 _ _ hc_81 _) (cwV 3 hts gq_X8_nest_X5_append_171 rfl rfl rfl (by decide +kernel) ⟨Nat.le_of_ble_eq_true rfl, Nat.le_of_ble_eq_true rfl⟩) ⟨PrC.blind _, q_rv7 hK hp hC hk_79, q_pre hp hK hN hZ hC hR hL hA⟩ rfl rfl hl.1 rfl (lv_room (Nat.le_of_ble_eq_true rfl)) dX8_nest_187 ⟨Nat.le_of_ble_eq_true rfl, Nat.le_of_ble_eq_true rfl⟩) (fun H locs hp => ?_)
                    have hk_1 : qk st_80 h0 = 11 := by rw [(mo_X5_append a_77 (qP st_68 h0 8) 0 r_76 _ _ hc_81).2.2.1]; exact hk_1
                    have hk_20 : qk st_80 a_18 = 3 := by rw [(mo_X5_append a_77 (qP st_68 h0 8) 0 r_76 _ _ hc_81).2.2.1]; exact hk_20
                    have hk_29 : qk st_80 a_27 = 6 := by rw [(mo_X5_append a_77 (qP st_68 h0 8) 0 r_76 _ _ hc_81).2.2.1]; exact hk_29
                    have hk_36 : qk st_80 a_34 = 6 := by rw [(mo_X5_append a_77 (qP st_68 h0 8) 0 r_76 _ _ hc_81).2.2.1]; exact hk_36
                    have hk_43 : qk st_80 a_41 = 7 := by rw [(mo_X5_append a_77 (qP st_68 h0 8) 0 r_76 _ _ hc_81).2.2.1]; exact hk_43
                    have hk_49 : qk st_80 a_47 = 8 := by rw [(mo_X5_append a_77 (qP st_68 h0 8) 0 r_76 _ _ hc_81).2.2.1]; exact hk_49
                    have hk_55 : qk st_80 a_53 = 8 := by rw [(mo_X5_append a_77 (qP st_68 h0 8) 0 r_76 _ _ hc_81).2.2.1]; exact hk_55
                    have hk_61 : qk st_80 a_59 = 8 := by rw [(mo_X5_append a_77 (qP st_68 h0 8) 0 r_76 _ _ hc_81).2.2.1]; exact hk_61
                    have hk_67 : qk st_80 a_65 = 8 := by rw [(mo_X5_append a_77 (qP st_68 h0 8) 0 r_76 _ _ hc_81).2.2.1]; exact hk_67
                    have hk_73 : qk st_80 a_71 = 8 := by rw [(mo_X5_append a_77 (qP st_68 h0 8) 0 r_76 _ _ hc_81).2.2.1]; exact hk_73
                    have hk_79 : qk st_80 a_77 = 8 := by rw [(mo_X5_append a_77 (qP st_68 h0 8) 0 r_76 _ _ hc_81).2.2.1]; exact hk_79
                    refine lv_aload_n hx hb dX8_nest_190 rfl (lv_at hl 5 rfl) ?_
                    refine o_aload hx hb dX8_nest_191 (lv_at hl 4 rfl) ?_
                    refine o_aload hx hb dX8_nest_193 (lv_at hl 2 rfl) ?_
                    refine lv_iload_n hx hb dX8_nest_195 rfl (lv_at hl 8 rfl) ?_
                    refine o_aload hx hb dX8_nest_196 (lv_at hl 1 rfl) ?_
                    refine o_at ha_19 ?_
                    refine q_gi (ci := 2) (C := RX0) (T := TX0) (N := 7) (k := 2) hx hb hts iRX0 hown hK hp hk_20 (by decide) rfl rfl (by decide) rfl (Or.inr ⟨_, va_Nw.use rfl (hN.1 (.fieldLinkNest RX8 109 "RecordBench$Field" "group" "I" "RecordBench") (by decide +kernel))⟩) (fun _ h9 => h9) dX8_nest_198 ?_
                    obtain ⟨r_85, st_83, hc_84, hf⟩ := bnd_some hf
                    refine q_ci hp hA (va_runV (As := [va_rf (Option.map ad r_4), va_rf (Option.map ad r_10), .int p2, .int (qI st_80 a_18 2)]) (rest := []) ⟨hx, hb, hml, hown, hts⟩ (c_X8_settle l dC dI ka ad ct h0 r_4 r_10 p2 (qI st_80 a_18 2) _ _ _ hc_84 _) (cwV 4 hts gq_X8_nest_X8_settle_160 rfl rfl rfl (by decide +kernel) ⟨Nat.le_of_ble_eq_true rfl, Nat.le_of_ble_eq_true rfl⟩) ⟨PrC.blind _, q_rv10 hK hp hC hk_1, q_pre hp hK hN hZ hC hR hL hA⟩ rfl rfl hl.1 rfl (lv_room (Nat.le_of_ble_eq_true rfl)) dX8_nest_201 ⟨Nat.le_of_ble_eq_true rfl, Nat.le_of_ble_eq_true rfl⟩) (fun H locs hp => ?_)
                    have hk_1 : qk st_83 h0 = 11 := by rw [(mo_X8_settle h0 r_4 r_10 p2 (qI st_80 a_18 2) _ _ _ hc_84).2.2.1]; exact hk_1
                    have hk_20 : qk st_83 a_18 = 3 := by rw [(mo_X8_settle h0 r_4 r_10 p2 (qI st_80 a_18 2) _ _ _ hc_84).2.2.1]; exact hk_20
                    have hk_29 : qk st_83 a_27 = 6 := by rw [(mo_X8_settle h0 r_4 r_10 p2 (qI st_80 a_18 2) _ _ _ hc_84).2.2.1]; exact hk_29
                    have hk_36 : qk st_83 a_34 = 6 := by rw [(mo_X8_settle h0 r_4 r_10 p2 (qI st_80 a_18 2) _ _ _ hc_84).2.2.1]; exact hk_36
                    have hk_43 : qk st_83 a_41 = 7 := by rw [(mo_X8_settle h0 r_4 r_10 p2 (qI st_80 a_18 2) _ _ _ hc_84).2.2.1]; exact hk_43
                    have hk_49 : qk st_83 a_47 = 8 := by rw [(mo_X8_settle h0 r_4 r_10 p2 (qI st_80 a_18 2) _ _ _ hc_84).2.2.1]; exact hk_49
                    have hk_55 : qk st_83 a_53 = 8 := by rw [(mo_X8_settle h0 r_4 r_10 p2 (qI st_80 a_18 2) _ _ _ hc_84).2.2.1]; exact hk_55
                    have hk_61 : qk st_83 a_59 = 8 := by rw [(mo_X8_settle h0 r_4 r_10 p2 (qI st_80 a_18 2) _ _ _ hc_84).2.2.1]; exact hk_61
                    have hk_67 : qk st_83 a_65 = 8 := by rw [(mo_X8_settle h0 r_4 r_10 p2 (qI st_80 a_18 2) _ _ _ hc_84).2.2.1]; exact hk_67
                    have hk_73 : qk st_83 a_71 = 8 := by rw [(mo_X8_settle h0 r_4 r_10 p2 (qI st_80 a_18 2) _ _ _ hc_84).2.2.1]; exact hk_73
                    have hk_79 : qk st_83 a_77 = 8 := by rw [(mo_X8_settle h0 r_4 r_10 p2 (qI st_80 a_18 2) _ _ _ hc_84).2.2.1]; exact hk_79
                    obtain ⟨e1, e2⟩ := pr_some hf
                    exact W.iret (v := r_85) hx hb hr (fun t ht hW => ⟨⟨r_85, (), rfl, e1, Cp.end e2 hp ht⟩, hp.2.1.F ht⟩) hp.2.1.2.2 dX8_nest_204
                  · have hf := pif_t c_40 hf
                    refine lv_bipush (v := (-2)) hx hb dX8_nest_120 (by decide) ?_
                    obtain ⟨e1, e2⟩ := pr_some hf
                    exact W.iret (v := (-2)) hx hb hr (fun t ht hW => ⟨⟨(-2), (), rfl, e1, Cp.end e2 hp ht⟩, hp.2.1.F ht⟩) hp.2.1.2.2 dX8_nest_122
              · have hf := pif_t c_26 hf
                refine lv_iconst (v := (-1)) hx hb dX8_nest_90 (by decide) ?_
                obtain ⟨e1, e2⟩ := pr_some hf
                exact W.iret (v := (-1)) hx hb hr (fun t ht hW => ⟨⟨(-1), (), rfl, e1, Cp.end e2 hp ht⟩, hp.2.1.F ht⟩) hp.2.1.2.2 dX8_nest_91
            · have hf := pif_t c_22 hf
              refine lv_iconst (v := (-1)) hx hb dX8_nest_69 (by decide) ?_
              obtain ⟨e1, e2⟩ := pr_some hf
              exact W.iret (v := (-1)) hx hb hr (fun t ht hW => ⟨⟨(-1), (), rfl, e1, Cp.end e2 hp ht⟩, hp.2.1.F ht⟩) hp.2.1.2.2 dX8_nest_70
noncomputable def fX8_drop (h0 : Nat) (p0 : Int32) (p1 : Int32) (p2 : Int32) (st : CS) : Option (Int32 × CS) := gd (qk st h0 = 11) (bnd (fX8_recordOf h0 p0 st) (fun r_4 st_2 => bnd (fX8_makeOf (qP st_2 h0 2) p1 st_2) (fun r_7 st_5 => bnd (fX8_fieldOf h0 p1 p2 st_5) (fun r_10 st_8 => pif (r_4 = none) (some (((-1) : Int32), st_8)) (pif (r_7 = none) (some (((-1) : Int32), st_8)) (pif (r_10 = none) (some (((-1) : Int32), st_8)) (ono r_10 (fun a_14 => gd (qk st_8 a_14 = 3) (pif ((qI st_8 a_14 1) = 0) (some (((-1) : Int32), st_8)) (ono (qP st_8 h0 4) (fun a_18 => gd (qk st_8 a_18 = 6) (bnd (fX3_isSound a_18 r_4 r_7 st_8) (fun r_23 st_21 => pif (r_23 = 0) (some (((-2) : Int32), st_21)) (ono (qP st_21 h0 7) (fun a_25 => gd (qk st_21 a_25 = 8) (bnd (fX5_cut a_25 0 st_21) (fun r_30 st_28 => bnd (fX8_settle h0 r_4 r_7 p2 0 st_28) (fun r_33 st_31 => some (r_33, st_31)))))))))))))))))))
set_option maxHeartbeats 1000000 in
theorem mo_X8_drop (h0 : Nat) (p0 : Int32) (p1 : Int32) (p2 : Int32) (st : CS) (r : Int32) (st' : CS) (hf : fX8_drop h0 p0 p1 p2 st = some (r, st')) : Ke st st' := by
  unfold fX8_drop at hf
  have hm : Ke st st := Ke.rf
  obtain ⟨hk_1, hf⟩ := gd_some hf
  obtain ⟨r_4, st_2, hc_3, hf⟩ := bnd_some hf
  have hm := hm.tr (mo_X8_recordOf h0 p0 _ _ _ hc_3)
  obtain ⟨r_7, st_5, hc_6, hf⟩ := bnd_some hf
  have hm := hm.tr (mo_X8_makeOf (qP st_2 h0 2) p1 _ _ _ hc_6)
  obtain ⟨r_10, st_8, hc_9, hf⟩ := bnd_some hf
  have hm := hm.tr (mo_X8_fieldOf h0 p1 p2 _ _ _ hc_9)
  rcases pif_or hf with ⟨c_11, hf⟩ | ⟨c_11, hf⟩
  · obtain ⟨e1, e2⟩ := pr_some hf
    exact e2 ▸ hm
  · rcases pif_or hf with ⟨c_12, hf⟩ | ⟨c_12, hf⟩
    · obtain ⟨e1, e2⟩ := pr_some hf
      exact e2 ▸ hm
    · rcases pif_or hf with ⟨c_13, hf⟩ | ⟨c_13, hf⟩
      · obtain ⟨e1, e2⟩ := pr_some hf
        exact e2 ▸ hm
      · obtain ⟨a_14, ha_15, hf⟩ := ono_some hf
        obtain ⟨hk_16, hf⟩ := gd_some hf
        rcases pif_or hf with ⟨c_17, hf⟩ | ⟨c_17, hf⟩
        · obtain ⟨e1, e2⟩ := pr_some hf
          exact e2 ▸ hm
        · obtain ⟨a_18, ha_19, hf⟩ := ono_some hf
          obtain ⟨hk_20, hf⟩ := gd_some hf
          obtain ⟨r_23, st_21, hc_22, hf⟩ := bnd_some hf
          have hm := hm.tr (mo_X3_isSound a_18 r_4 r_7 _ _ _ hc_22)
          rcases pif_or hf with ⟨c_24, hf⟩ | ⟨c_24, hf⟩
          · obtain ⟨e1, e2⟩ := pr_some hf
            exact e2 ▸ hm
          · obtain ⟨a_25, ha_26, hf⟩ := ono_some hf
            obtain ⟨hk_27, hf⟩ := gd_some hf
            obtain ⟨r_30, st_28, hc_29, hf⟩ := bnd_some hf
            have hm := hm.tr (mo_X5_cut a_25 0 _ _ _ hc_29)
            obtain ⟨r_33, st_31, hc_32, hf⟩ := bnd_some hf
            have hm := hm.tr (mo_X8_settle h0 r_4 r_7 p2 0 _ _ _ hc_32)
            obtain ⟨e1, e2⟩ := pr_some hf
            exact e2 ▸ hm
def wq_X8_drop : List Cond := .code yX8_drop cX8_drop 7 (some .int) :: (([.fieldLink RX8 24 "RecordBench" "makes" "[LRecordBench$Make;", .fieldLink RX8 42 "RecordBench" "reader" "LRecordBench$RecordReader;", .fieldLink RX8 60 "RecordBench" "fresh" "LRecordBench$Row;", .methodLink RX8 128 yX8_recordOf, .instanceMethod yX8_recordOf, .selects RX8 yX8_recordOf yX8_recordOf, .initialized RX8, .methodLink RX8 136 yX8_makeOf, .static yX8_makeOf, .methodLink RX8 100 yX8_fieldOf, .instanceMethod yX8_fieldOf, .selects RX8 yX8_fieldOf yX8_fieldOf, .methodLink RX8 144 yX3_isSound, .instanceMethod yX3_isSound, .selects RX3 yX3_isSound yX3_isSound, .initialized RX3, .methodLink RX8 83 yX5_cut, .instanceMethod yX5_cut, .selects RX5 yX5_cut yX5_cut, .initialized RX5, .methodLink RX8 160 yX8_settle, .instanceMethod yX8_settle, .selects RX8 yX8_settle yX8_settle, .code yX8_recordOf cX8_recordOf 2 (some (.object "RecordBench$Row")), .fieldLink RX8 18 "RecordBench" "records" "[LRecordBench$Row;", .code yX8_makeOf cX8_makeOf 2 (some (.object "RecordBench$Make")), .code yX8_fieldOf cX8_fieldOf 4 (some (.object "RecordBench$Field")), .methodLink RX8 225 yX1_fieldAt, .instanceMethod yX1_fieldAt, .selects RX1 yX1_fieldAt yX1_fieldAt, .initialized RX1, .code yX1_fieldAt cX1_fieldAt 2 (some (.object "RecordBench$Field")), .fieldLink RX1 11 "RecordBench$Make" "fields" "[LRecordBench$Field;", .code yX3_isSound cX3_isSound 3 (some .boolean), .fieldLink RX3 22 "RecordBench$RecordReader" "fault" "I", .fieldLink RX3 26 "RecordBench$RecordReader" "place" "I", .methodLink RX3 29 yX5_size, .instanceMethod yX5_size, .selects RX5 yX5_size yX5_size, .methodLink RX3 35 yX3_scan, .instanceMethod yX3_scan, .selects RX3 yX3_scan yX3_scan, .code yX5_size cX5_size 1 (some .int), .fieldLink RX5 21 "RecordBench$Row" "size" "I", .code yX3_scan cX3_scan 13 (some .boolean), .fieldLink RX3 17 "RecordBench$RecordReader" "pieces" "[LRecordBench$Piece;", .methodLink RX3 79 yX3_groupBit, .static yX3_groupBit, .methodLink RX3 43 yX2_look, .instanceMethod yX2_look, .selects RX2 yX2_look yX2_look, .initialized RX2, .methodLink RX3 50 yX1_knownAt, .instanceMethod yX1_knownAt, .selects RX1 yX1_knownAt yX1_knownAt, .methodLink RX3 56 yX3_faultOf, .static yX3_faultOf, .methodLink RX3 60 yX3_isRec, .static yX3_isRec, .fieldLink RX3 9 "RecordBench$RecordReader" "makes" "[LRecordBench$Make;", .methodLink RX3 39 yX3_refuse, .instanceMethod yX3_refuse, .selects RX3 yX3_refuse yX3_refuse, .code yX3_groupBit cX3_groupBit 1 (some .int), .code yX2_look cX2_look 6 none, .fieldLink RX2 9 "RecordBench$Piece" "number" "I", .fieldLink RX2 15 "RecordBench$Piece" "withLength" "Z", .fieldLink RX2 19 "RecordBench$Piece" "raw" "J", .fieldLink RX2 23 "RecordBench$Piece" "body" "I", .fieldLink RX2 26 "RecordBench$Piece" "end" "I", .fieldLink RX2 29 "RecordBench$Piece" "fault" "I", .fieldLink RX2 32 "RecordBench$Piece" "pos" "I", .fieldLink RX2 35 "RecordBench$Piece" "broken" "Z", .methodLink RX2 42 yX2_place, .instanceMethod yX2_place, .selects RX2 yX2_place yX2_place, .methodLink RX2 38 yX2_takeVarint, .instanceMethod yX2_takeVarint, .selects RX2 yX2_takeVarint yX2_takeVarint, .code yX2_place cX2_place 6 none, .constantLong RX2 46 (30), .code yX2_takeVarint cX2_takeVarint 7 (some .long), .constantLong RX2 54 (127), .methodLink RX2 48 yX5_byteAt, .instanceMethod yX5_byteAt, .selects RX5 yX5_byteAt yX5_byteAt, .code yX5_byteAt cX5_byteAt 2 (some .int), .fieldLink RX5 15 "RecordBench$Row" "bytes" "[I", .code yX1_knownAt cX1_knownAt 3 (some (.object "RecordBench$Field")), .methodLink RX1 21 yX1_fieldAt, .code yX3_faultOf cX3_faultOf 5 (some .int), .methodLink RX3 92 yX3_fits, .static yX3_fits, .methodLink RX3 88 yX0_hasLength, .instanceMethod yX0_hasLength, .selects RX0 yX0_hasLength yX0_hasLength, .initialized RX0, .code yX3_fits cX3_fits 3 (some .boolean), .methodLink RX3 96 yX0_isNumber, .instanceMethod yX0_isNumber, .selects RX0 yX0_isNumber yX0_isNumber, .methodLink RX3 110 yX5_isText, .instanceMethod yX5_isText, .selects RX5 yX5_isText yX5_isText, .methodLink RX3 99 yX2_asNumber, .instanceMethod yX2_asNumber, .selects RX2 yX2_asNumber yX2_asNumber, .methodLink RX3 103 yX0_holds, .instanceMethod yX0_holds, .selects RX0 yX0_holds yX0_holds, .code yX0_isNumber cX0_isNumber 1 (some .boolean), .fieldLink RX0 15 "RecordBench$Field" "kind" "I", .code yX5_isText cX5_isText 4 (some .boolean), .methodLink RX5 48 yX5_byteAt, .methodLink RX5 52 yX5_isTextByte, .static yX5_isTextByte, .code yX5_isTextByte cX5_isTextByte 1 (some .boolean), .code yX2_asNumber cX2_asNumber 1 (some .long), .code yX0_holds cX0_holds 3 (some .boolean), .constantLong RX0 37 (-128), .constantLong RX0 39 (127), .constantLong RX0 41 (-2147483648), .constantLong RX0 43 (2147483647), .code yX0_hasLength cX0_hasLength 1 (some .boolean), .code yX3_isRec cX3_isRec 1 (some .boolean), .code yX3_refuse cX3_refuse 3 (some .boolean), .code yX5_cut cX5_cut 2 (some .boolean), .code yX8_settle cX8_settle 5 (some .int), .fieldLink RX8 49 "RecordBench" "writer" "LRecordBench$RecordWriter;", .fieldLink RX8 63 "RecordBench" "work" "LRecordBench$Row;", .methodLink RX8 221 yX4_rewriteWith, .instanceMethod yX4_rewriteWith, .selects RX4 yX4_rewriteWith yX4_rewriteWith, .initialized RX4, .methodLink RX8 76 yX5_size, .methodLink RX8 132 yX5_become, .instanceMethod yX5_become, .selects RX5 yX5_become yX5_become, .code yX4_rewriteWith cX4_rewriteWith 13 none, .fieldLink RX4 17 "RecordBench$RecordWriter" "pieces" "[LRecordBench$Piece;", .methodLink RX4 39 yX5_size, .methodLink RX4 51 yX5_append, .instanceMethod yX5_append, .selects RX5 yX5_append yX5_append, .methodLink RX4 66 yX4_copyPiece, .instanceMethod yX4_copyPiece, .selects RX4 yX4_copyPiece yX4_copyPiece, .methodLink RX4 54 yX1_knownAt, .methodLink RX4 43 yX2_look, .methodLink RX4 35 yX5_cut, .code yX5_append cX5_append 5 none, .methodLink RX5 25 yX5_push, .instanceMethod yX5_push, .selects RX5 yX5_push yX5_push, .code yX5_push cX5_push 2 none, .code yX4_copyPiece cX4_copyPiece 8 none, .fieldLink RX4 9 "RecordBench$RecordWriter" "makes" "[LRecordBench$Make;", .methodLink RX4 73 yX5_pushKey, .instanceMethod yX5_pushKey, .selects RX5 yX5_pushKey yX5_pushKey, .methodLink RX4 77 yX0_isNumber, .methodLink RX4 102 yX5_push, .methodLink RX4 112 yX4_copyAll, .instanceMethod yX4_copyAll, .selects RX4 yX4_copyAll yX4_copyAll, .methodLink RX4 116 yX5_replace, .instanceMethod yX5_replace, .selects RX5 yX5_replace yX5_replace, .methodLink RX4 96 yX5_pushVarint, .instanceMethod yX5_pushVarint, .selects RX5 yX5_pushVarint yX5_pushVarint, .methodLink RX4 81 yX2_asNumber, .methodLink RX4 85 yX5_pushNumber, .instanceMethod yX5_pushNumber, .selects RX5 yX5_pushNumber yX5_pushNumber, .code yX5_pushKey cX5_pushKey 2 none, .constantLong RX5 37 (2), .methodLink RX5 33 yX5_pushVarint, .methodLink RX5 44 yX0_hasLength, .code yX5_pushVarint cX5_pushVarint 6 none, .constantLong RX5 29 (-128), .constantLong RX5 31 (127), .code yX4_copyAll cX4_copyAll 10 none, .code yX5_replace cX5_replace 3 none, .code yX5_pushNumber cX5_pushNumber 3 none, .code yX5_become cX5_become 6 none] : List Cond) ++ wsX80 ++ wsX00 ++ wsX10 ++ wsX30 ++ wsX50 ++ wsX20 ++ wsX40)
theorem gs_wq_X8_drop_wsX80 : GoodIn wq_X8_drop wsX80 := fun w h => ⟨List.mem_cons_of_mem _ (List.mem_append_left _ (List.mem_append_left _ (List.mem_append_left _ (List.mem_append_left _ (List.mem_append_left _ (List.mem_append_left _ (List.mem_append_right _ h))))))), (gt_wsX80 w h).2⟩
set_option maxRecDepth 20000 in
theorem gq_X8_drop_X8_recordOf_128 : GoodIn wq_X8_drop (wsV RX8 128 RX8 yX8_recordOf wq_X8_recordOf) := goodIn_app (goodIn_r _ [4, 5, 6, 7] rfl rfl) (goodIn_ca (goodIn_r _ [24, 25] rfl rfl) gs_wq_X8_drop_wsX80)
set_option maxRecDepth 20000 in
theorem gq_X8_drop_X8_makeOf_136 : GoodIn wq_X8_drop (va_wsS RX8 136 yX8_makeOf wq_X8_makeOf) := goodIn_app (goodIn_r _ [8, 9, 7] rfl rfl) (goodIn_r _ [26] rfl rfl)
theorem gs_wq_X8_drop_wsX10 : GoodIn wq_X8_drop wsX10 := fun w h => ⟨List.mem_cons_of_mem _ (List.mem_append_left _ (List.mem_append_left _ (List.mem_append_left _ (List.mem_append_left _ (List.mem_append_right _ h))))), (gt_wsX10 w h).2⟩
set_option maxRecDepth 20000 in
theorem gq_X8_drop_X8_fieldOf_100 : GoodIn wq_X8_drop (wsV RX8 100 RX8 yX8_fieldOf wq_X8_fieldOf) := goodIn_app (goodIn_r _ [10, 11, 12, 7] rfl rfl) (goodIn_ca (goodIn_ca (goodIn_r _ [27, 1, 8, 9, 7, 28, 29, 30, 31, 26, 32, 33] rfl rfl) gs_wq_X8_drop_wsX80) gs_wq_X8_drop_wsX10)
theorem gs_wq_X8_drop_wsX30 : GoodIn wq_X8_drop wsX30 := fun w h => ⟨List.mem_cons_of_mem _ (List.mem_append_left _ (List.mem_append_left _ (List.mem_append_left _ (List.mem_append_right _ h)))), (gt_wsX30 w h).2⟩
theorem gs_wq_X8_drop_wsX50 : GoodIn wq_X8_drop wsX50 := fun w h => ⟨List.mem_cons_of_mem _ (List.mem_append_left _ (List.mem_append_left _ (List.mem_append_right _ h))), (gt_wsX50 w h).2⟩
theorem gs_wq_X8_drop_wsX20 : GoodIn wq_X8_drop wsX20 := fun w h => ⟨List.mem_cons_of_mem _ (List.mem_append_left _ (List.mem_append_right _ h)), (gt_wsX20 w h).2⟩
theorem gs_wq_X8_drop_wsX00 : GoodIn wq_X8_drop wsX00 := fun w h => ⟨List.mem_cons_of_mem _ (List.mem_append_left _ (List.mem_append_left _ (List.mem_append_left _ (List.mem_append_left _ (List.mem_append_left _ (List.mem_append_right _ h)))))), (gt_wsX00 w h).2⟩
set_option maxRecDepth 20000 in
theorem gq_X8_drop_X3_isSound_144 : GoodIn wq_X8_drop (wsV RX8 144 RX3 yX3_isSound wq_X3_isSound) := goodIn_app (goodIn_r _ [13, 14, 15, 16] rfl rfl) (goodIn_ca (goodIn_ca (goodIn_ca (goodIn_ca (goodIn_ca (goodIn_r _ [34, 35, 36, 37, 38, 39, 20, 40, 41, 42, 16, 43, 44, 45, 46, 47, 48, 49, 50, 51, 52, 53, 54, 55, 31, 56, 57, 58, 59, 60, 9, 7, 61, 62, 63, 64, 65, 66, 67, 68, 69, 70, 71, 72, 73, 74, 75, 76, 77, 78, 79, 80, 81, 82, 83, 84, 85, 86, 87, 88, 89, 90, 29, 30, 32, 33, 91, 92, 93, 94, 95, 96, 97, 98, 99, 100, 101, 102, 103, 104, 105, 106, 107, 108, 109, 110, 111, 112, 113, 114, 115, 116, 117, 118, 119, 120, 121, 122, 123, 124, 125, 26, 126] rfl rfl) gs_wq_X8_drop_wsX30) gs_wq_X8_drop_wsX50) gs_wq_X8_drop_wsX20) gs_wq_X8_drop_wsX00) gs_wq_X8_drop_wsX10)
set_option maxRecDepth 20000 in
theorem gq_X8_drop_X5_cut_83 : GoodIn wq_X8_drop (wsV RX8 83 RX5 yX5_cut wq_X5_cut) := goodIn_app (goodIn_r _ [17, 18, 19, 20] rfl rfl) (goodIn_ca (goodIn_r _ [127, 44] rfl rfl) gs_wq_X8_drop_wsX50)
theorem gs_wq_X8_drop_wsX40 : GoodIn wq_X8_drop wsX40 := fun w h => ⟨List.mem_cons_of_mem _ (List.mem_append_right _ h), (gt_wsX40 w h).2⟩
set_option maxRecDepth 20000 in
theorem gq_X8_drop_X8_settle_160 : GoodIn wq_X8_drop (wsV RX8 160 RX8 yX8_settle wq_X8_settle) := goodIn_app (goodIn_r _ [21, 22, 23, 7] rfl rfl) (goodIn_ca (goodIn_ca (goodIn_ca (goodIn_ca (goodIn_ca (goodIn_ca (goodIn_r _ [128, 129, 3, 130, 131, 132, 133, 134, 135, 38, 39, 20, 136, 137, 138, 139, 140, 141, 142, 143, 144, 145, 146, 147, 148, 54, 55, 31, 149, 50, 51, 52, 150, 18, 19, 43, 44, 151, 114, 85, 86, 152, 153, 154, 87, 88, 155, 156, 157, 158, 159, 160, 161, 100, 101, 97, 162, 9, 7, 163, 164, 165, 166, 167, 168, 169, 170, 171, 172, 106, 107, 173, 174, 175, 176, 177, 178, 179, 95, 96, 180, 181, 182, 124, 112, 111, 26, 183, 65, 66, 67, 68, 69, 70, 71, 72, 73, 74, 75, 76, 77, 78, 79, 80, 81, 82, 83, 84, 89, 90, 29, 30, 32, 33, 184, 118, 185, 127, 186] rfl rfl) gs_wq_X8_drop_wsX80) gs_wq_X8_drop_wsX40) gs_wq_X8_drop_wsX20) gs_wq_X8_drop_wsX00) gs_wq_X8_drop_wsX50) gs_wq_X8_drop_wsX10)
set_option maxHeartbeats 4000000 in
set_option maxRecDepth 100000 in
theorem c_X8_drop (l : Launch) (dC : Nat → ClassId) (dI : Nat → Nat → Nat) (ka ad : Nat → Nat) (ct : Nat → ClassId) (h0 : Nat) (p0 : Int32) (p1 : Int32) (p2 : Int32) (st st' : CS) (r : Int32) (hf : fX8_drop h0 p0 p1 p2 st = some (r, st')) (sz : Nat) : Met l yX8_drop wq_X8_drop ({ frames := 54, cells := 0, slots := 0, locals := 1507 }) (va_Pc [.ref (ad h0), .int p0, .int p1, .int p2] (PrC (dC, dI) ct ka ad st sz)) (va_Qi (fun r' (_ : Unit) => r' = r) (fun _ => CB (dC, dI) ct ka ad st' (aC ad st sz)) (aC ad st sz)) 0 0 (aC ad st sz) := by
  refine Met.ofW (cc := cX8_drop) (maxL := 7) (ret := (some .int)) (by decide) rfl ?_
  intro p e s m args below meth c s₁ B hml hv
  obtain ⟨rfl, hsz, hw0, hK, hN, hZ, hC, hR, hL, hw1, hw2⟩ := hv
  have hx := B.exec
  have hb := B.bytes
  have hr := B.returns
  have hts := atoms_spec (ws := wq_X8_drop) B.pre
  have hown : s.vm.findClass RX8 = some m.cls := findClass_of_methodNamed B.named
  have iRX8 : ∀ w ∈ u_ws RX8 TX8 12, w ∈ wq_X8_drop := fun w h => List.mem_cons_of_mem _ (List.mem_append_left _ (List.mem_append_left _ (List.mem_append_left _ (List.mem_append_left _ (List.mem_append_left _ (List.mem_append_left _ (List.mem_append_right _ h)))))))
  have iRX0 : ∀ w ∈ u_ws RX0 TX0 7, w ∈ wq_X8_drop := fun w h => List.mem_cons_of_mem _ (List.mem_append_left _ (List.mem_append_left _ (List.mem_append_left _ (List.mem_append_left _ (List.mem_append_left _ (List.mem_append_right _ h))))))
  subst hsz
  have hp : Cp (dC, dI) ka ad ct (aC ad st s.heap.size) s.heap st s.heap [] := ⟨fun i a b => ⟨hw0 i a b, Or.inl ⟨i, a, b, rfl⟩⟩, va_S.rf, hw1, hw2⟩
  generalize hAe : aC ad st s.heap.size = A at hp hZ hC ⊢
  have hA : ∀ q : Nat, s.heap.size ≤ q → A q := fun q h => by rw [← hAe]; exact Or.inr h
  have hl := lv_entry ([.ref (ad h0), .int p0, .int p1, .int p2]) (n := 7) (Nat.le_of_ble_eq_true rfl)
  rw [lg_entry_eq]
  generalize (lg_sl ([.ref (ad h0), .int p0, .int p1, .int p2]) ++ List.replicate (7 - (lg_sl ([.ref (ad h0), .int p0, .int p1, .int p2])).length) Slot.unset).toArray = ls at hl ⊢
  have hl : lv_has ls 7 [(0, .ref (ad h0)), (1, .int p0), (2, .int p1), (3, .int p2)] := hl
  unfold fX8_drop at hf
  refine lv_aload_n hx hb dX8_drop_0 rfl (lv_at hl 0 rfl) ?_
  refine lv_iload_n hx hb dX8_drop_1 rfl (lv_at hl 1 rfl) ?_
  obtain ⟨hk_1, hf⟩ := gd_some hf
  obtain ⟨r_4, st_2, hc_3, hf⟩ := bnd_some hf
  refine q_cq hp hA (va_runV (As := [.int p0]) (rest := []) ⟨hx, hb, hml, hown, hts⟩ (c_X8_recordOf l dC dI ka ad ct h0 p0 _ _ _ hc_3 _) (cwV 1 hts gq_X8_drop_X8_recordOf_128 rfl rfl rfl (by decide +kernel) ⟨Nat.le_of_ble_eq_true rfl, Nat.le_of_ble_eq_true rfl⟩) ⟨PrC.blind _, q_rv10 hK hp hC hk_1, q_pre hp hK hN hZ hC hR hL hA⟩ rfl rfl hl.1 rfl (lv_room (Nat.le_of_ble_eq_true rfl)) dX8_drop_2 ⟨Nat.le_of_ble_eq_true rfl, Nat.le_of_ble_eq_true rfl⟩) (fun H locs hp => ?_)
  have hk_1 : qk st_2 h0 = 11 := by rw [(mo_X8_recordOf h0 p0 _ _ _ hc_3).2.2.1]; exact hk_1
  refine o_astore (i := 4) (lv' := [(4, va_rf (Option.map ad r_4)), (0, .ref (ad h0)), (1, .int p0), (2, .int p1), (3, .int p2)]) hx hb dX8_drop_5 hl (by decide) rfl (fun ls hl => ?_)
  refine lv_aload_n hx hb dX8_drop_7 rfl (lv_at hl 1 rfl) ?_
  refine q_gp (ci := 10) (C := RX8) (T := TX8) (N := 12) (k := 2) hx hb hts iRX8 hown hK hp hk_1 (by decide) rfl rfl (by decide) rfl (Or.inl (hts (.fieldLink RX8 24 "RecordBench" "makes" "[LRecordBench$Make;") (by decide +kernel))) (fun _ h9 => h9) dX8_drop_8 ?_
  refine lv_iload_n hx hb dX8_drop_11 rfl (lv_at hl 3 rfl) ?_
  obtain ⟨r_7, st_5, hc_6, hf⟩ := bnd_some hf
  refine q_cq hp hA (va_runS (As := [va_rf (Option.map ad (qP st_2 h0 2)), .int p1]) (rest := []) ⟨hx, hb, hml, hown, hts⟩ (c_X8_makeOf l dC dI ka ad ct (qP st_2 h0 2) p1 _ _ _ hc_6 _) (va_cwS 2 hts gq_X8_drop_X8_makeOf_136 rfl rfl rfl (by decide +kernel) ⟨Nat.le_of_ble_eq_true rfl, Nat.le_of_ble_eq_true rfl⟩) ⟨PrC.blind _, q_pre hp hK hN hZ hC hR hL hA⟩ rfl rfl hl.1 rfl (lv_room (Nat.le_of_ble_eq_true rfl)) dX8_drop_12 ⟨Nat.le_of_ble_eq_true rfl, Nat.le_of_ble_eq_true rfl⟩) (fun H locs hp => ?_)
  have hk_1 : qk st_5 h0 = 11 := by rw [(mo_X8_makeOf (qP st_2 h0 2) p1 _ _ _ hc_6).2.2.1]; exact hk_1
  refine o_astore (i := 5) (lv' := [(5, va_rf (Option.map ad r_7)), (4, va_rf (Option.map ad r_4)), (0, .ref (ad h0)), (1, .int p0), (2, .int p1), (3, .int p2)]) hx hb dX8_drop_15 hl (by decide) (by simp [rf_cat, vc_i, vc_l, vc_r, vc_n]) (fun ls hl => ?_)
  refine lv_aload_n hx hb dX8_drop_17 rfl (lv_at hl 2 rfl) ?_
  refine lv_iload_n hx hb dX8_drop_18 rfl (lv_at hl 4 rfl) ?_
  refine lv_iload_n hx hb dX8_drop_19 rfl (lv_at hl 5 rfl) ?_
  obtain ⟨r_10, st_8, hc_9, hf⟩ := bnd_some hf
  refine q_cq hp hA (va_runV (As := [.int p1, .int p2]) (rest := []) ⟨hx, hb, hml, hown, hts⟩ (c_X8_fieldOf l dC dI ka ad ct h0 p1 p2 _ _ _ hc_9 _) (cwV 2 hts gq_X8_drop_X8_fieldOf_100 rfl rfl rfl (by decide +kernel) ⟨Nat.le_of_ble_eq_true rfl, Nat.le_of_ble_eq_true rfl⟩) ⟨PrC.blind _, q_rv10 hK hp hC hk_1, q_pre hp hK hN hZ hC hR hL hA⟩ rfl rfl hl.1 rfl (lv_room (Nat.le_of_ble_eq_true rfl)) dX8_drop_20 ⟨Nat.le_of_ble_eq_true rfl, Nat.le_of_ble_eq_true rfl⟩) (fun H locs hp => ?_)
  have hk_1 : qk st_8 h0 = 11 := by rw [(mo_X8_fieldOf h0 p1 p2 _ _ _ hc_9).2.2.1]; exact hk_1
  refine o_astore (i := 6) (lv' := [(6, va_rf (Option.map ad r_10)), (5, va_rf (Option.map ad r_7)), (4, va_rf (Option.map ad r_4)), (0, .ref (ad h0)), (1, .int p0), (2, .int p1), (3, .int p2)]) hx hb dX8_drop_23 hl (by decide) (by simp [rf_cat, vc_i, vc_l, vc_r, vc_n]) (fun ls hl => ?_)
  refine o_aload hx hb dX8_drop_25 (lv_at hl 2 rfl) ?_
  refine o_ifnull (tgt := 48) hx hb dX8_drop_27 (by decide) (fun c_11 => ?_) (fun c_11 => ?_)
  · have hf := pif_t c_11 hf
    refine lv_iconst (v := (-1)) hx hb dX8_drop_48 (by decide) ?_
    obtain ⟨e1, e2⟩ := pr_some hf
    exact W.iret (v := (-1)) hx hb hr (fun t ht hW => ⟨⟨(-1), (), rfl, e1, Cp.end e2 hp ht⟩, hp.2.1.F ht⟩) hp.2.1.2.2 dX8_drop_49
  · have hf := pif_f c_11 hf
    refine o_aload hx hb dX8_drop_30 (lv_at hl 1 rfl) ?_
    refine o_ifnull (tgt := 48) hx hb dX8_drop_32 (by decide) (fun c_12 => ?_) (fun c_12 => ?_)
    · have hf := pif_t c_12 hf
      refine lv_iconst (v := (-1)) hx hb dX8_drop_48 (by decide) ?_
      obtain ⟨e1, e2⟩ := pr_some hf
      exact W.iret (v := (-1)) hx hb hr (fun t ht hW => ⟨⟨(-1), (), rfl, e1, Cp.end e2 hp ht⟩, hp.2.1.F ht⟩) hp.2.1.2.2 dX8_drop_49
    · have hf := pif_f c_12 hf
      refine o_aload hx hb dX8_drop_35 (lv_at hl 0 rfl) ?_
      refine o_ifnull (tgt := 48) hx hb dX8_drop_37 (by decide) (fun c_13 => ?_) (fun c_13 => ?_)
      · have hf := pif_t c_13 hf
        refine lv_iconst (v := (-1)) hx hb dX8_drop_48 (by decide) ?_
        obtain ⟨e1, e2⟩ := pr_some hf
        exact W.iret (v := (-1)) hx hb hr (fun t ht hW => ⟨⟨(-1), (), rfl, e1, Cp.end e2 hp ht⟩, hp.2.1.F ht⟩) hp.2.1.2.2 dX8_drop_49
      · have hf := pif_f c_13 hf
        refine o_aload hx hb dX8_drop_40 (lv_at hl 0 rfl) ?_
        obtain ⟨a_14, ha_15, hf⟩ := ono_some hf
        refine o_at ha_15 ?_
        obtain ⟨hk_16, hf⟩ := gd_some hf
        refine q_gi (ci := 2) (C := RX0) (T := TX0) (N := 7) (k := 1) hx hb hts iRX0 hown hK hp hk_16 (by decide) rfl rfl (by decide) rfl (Or.inr ⟨_, va_Nw.use rfl (hN.1 (.fieldLinkNest RX8 104 "RecordBench$Field" "kind" "I" "RecordBench") (by decide +kernel))⟩) (fun _ h9 => h9) dX8_drop_42 ?_
        refine lv_if_ne (tgt := 50) hx hb dX8_drop_45 (by decide) (fun c_17 => ?_) (fun c_17 => ?_)
        · have hf := pif_f c_17 hf
          refine lv_aload_n hx hb dX8_drop_50 rfl (lv_at hl 3 rfl) ?_
          refine q_gp (ci := 10) (C := RX8) (T := TX8) (N := 12) (k := 4) hx hb hts iRX8 hown hK hp hk_1 (by decide) rfl rfl (by decide) rfl (Or.inl (hts (.fieldLink RX8 42 "RecordBench" "reader" "LRecordBench$RecordReader;") (by decide +kernel))) (fun _ h9 => h9) dX8_drop_51 ?_
          refine o_aload hx hb dX8_drop_54 (lv_at hl 2 rfl) ?_
          refine o_aload hx hb dX8_drop_56 (lv_at hl 1 rfl) ?_
          obtain ⟨a_18, ha_19, hf⟩ := ono_some hf
          refine o_at2 ha_19 ?_
          obtain ⟨hk_20, hf⟩ := gd_some hf
          obtain ⟨r_23, st_21, hc_22, hf⟩ := bnd_some hf
          refine q_ci hp hA (va_runV (As := [va_rf (Option.map ad r_4), va_rf (Option.map ad r_7)]) (rest := []) ⟨hx, hb, hml, hown, hts⟩ (c_X3_isSound l dC dI ka ad ct a_18 r_4 r_7 _ _ _ hc_22 _) (cwV 2 hts gq_X8_drop_X3_isSound_144 rfl rfl rfl (by decide +kernel) ⟨Nat.le_of_ble_eq_true rfl, Nat.le_of_ble_eq_true rfl⟩) ⟨PrC.blind _, q_rv5 hK hp hC hk_20, q_pre hp hK hN hZ hC hR hL hA⟩ rfl rfl hl.1 rfl (lv_room (Nat.le_of_ble_eq_true rfl)) dX8_drop_58 ⟨Nat.le_of_ble_eq_true rfl, Nat.le_of_ble_eq_true rfl⟩) (fun H locs hp => ?_)
          have hk_1 : qk st_21 h0 = 11 := by rw [(mo_X3_isSound a_18 r_4 r_7 _ _ _ hc_22).2.2.1]; exact hk_1
          have hk_16 : qk st_21 a_14 = 3 := by rw [(mo_X3_isSound a_18 r_4 r_7 _ _ _ hc_22).2.2.1]; exact hk_16
          have hk_20 : qk st_21 a_18 = 6 := by rw [(mo_X3_isSound a_18 r_4 r_7 _ _ _ hc_22).2.2.1]; exact hk_20
          refine lv_if_ne (tgt := 67) hx hb dX8_drop_61 (by decide) (fun c_24 => ?_) (fun c_24 => ?_)
          · have hf := pif_f c_24 hf
            refine lv_aload_n hx hb dX8_drop_67 rfl (lv_at hl 3 rfl) ?_
            refine q_gp (ci := 10) (C := RX8) (T := TX8) (N := 12) (k := 7) hx hb hts iRX8 hown hK hp hk_1 (by decide) rfl rfl (by decide) rfl (Or.inl (hts (.fieldLink RX8 60 "RecordBench" "fresh" "LRecordBench$Row;") (by decide +kernel))) (fun _ h9 => h9) dX8_drop_68 ?_
            refine lv_iconst (v := 0) hx hb dX8_drop_71 (by decide) ?_
            obtain ⟨a_25, ha_26, hf⟩ := ono_some hf
            refine o_at1 ha_26 ?_
            obtain ⟨hk_27, hf⟩ := gd_some hf
            obtain ⟨r_30, st_28, hc_29, hf⟩ := bnd_some hf
            refine q_ci hp hA (va_runV (As := [.int 0]) (rest := []) ⟨hx, hb, hml, hown, hts⟩ (c_X5_cut l dC dI ka ad ct a_25 0 _ _ _ hc_29 _) (cwV 1 hts gq_X8_drop_X5_cut_83 rfl rfl rfl (by decide +kernel) ⟨Nat.le_of_ble_eq_true rfl, Nat.le_of_ble_eq_true rfl⟩) ⟨PrC.blind _, q_rv7 hK hp hC hk_27, q_pre hp hK hN hZ hC hR hL hA⟩ rfl rfl hl.1 rfl (lv_room (Nat.le_of_ble_eq_true rfl)) dX8_drop_72 ⟨Nat.le_of_ble_eq_true rfl, Nat.le_of_ble_eq_true rfl⟩) (fun H locs hp => ?_)
            have hk_1 : qk st_28 h0 = 11 := by rw [(mo_X5_cut a_25 0 _ _ _ hc_29).2.2.1]; exact hk_1
            have hk_16 : qk st_28 a_14 = 3 := by rw [(mo_X5_cut a_25 0 _ _ _ hc_29).2.2.1]; exact hk_16
            have hk_20 : qk st_28 a_18 = 6 := by rw [(mo_X5_cut a_25 0 _ _ _ hc_29).2.2.1]; exact hk_20
            have hk_27 : qk st_28 a_25 = 8 := by rw [(mo_X5_cut a_25 0 _ _ _ hc_29).2.2.1]; exact hk_27
            refine lv_pop hx hb dX8_drop_75 rfl ?_
            refine lv_aload_n hx hb dX8_drop_76 rfl (lv_at hl 3 rfl) ?_
            refine o_aload hx hb dX8_drop_77 (lv_at hl 2 rfl) ?_
            refine o_aload hx hb dX8_drop_79 (lv_at hl 1 rfl) ?_
            refine lv_iload_n hx hb dX8_drop_81 rfl (lv_at hl 6 rfl) ?_
            refine lv_iconst (v := 0) hx hb dX8_drop_82 (by decide) ?_
            obtain ⟨r_33, st_31, hc_32, hf⟩ := bnd_some hf
            refine q_ci hp hA (va_runV (As := [va_rf (Option.map ad r_4), va_rf (Option.map ad r_7), .int p2, .int 0]) (rest := []) ⟨hx, hb, hml, hown, hts⟩ (c_X8_settle l dC dI ka ad ct h0 r_4 r_7 p2 0 _ _ _ hc_32 _) (cwV 4 hts gq_X8_drop_X8_settle_160 rfl rfl rfl (by decide +kernel) ⟨Nat.le_of_ble_eq_true rfl, Nat.le_of_ble_eq_true rfl⟩) ⟨PrC.blind _, q_rv10 hK hp hC hk_1, q_pre hp hK hN hZ hC hR hL hA⟩ rfl rfl hl.1 rfl (lv_room (Nat.le_of_ble_eq_true rfl)) dX8_drop_83 ⟨Nat.le_of_ble_eq_true rfl, Nat.le_of_ble_eq_true rfl⟩) (fun H locs hp => ?_)
            have hk_1 : qk st_31 h0 = 11 := by rw [(mo_X8_settle h0 r_4 r_7 p2 0 _ _ _ hc_32).2.2.1]; exact hk_1
            have hk_16 : qk st_31 a_14 = 3 := by rw [(mo_X8_settle h0 r_4 r_7 p2 0 _ _ _ hc_32).2.2.1]; exact hk_16
            have hk_20 : qk st_31 a_18 = 6 := by rw [(mo_X8_settle h0 r_4 r_7 p2 0 _ _ _ hc_32).2.2.1]; exact hk_20
            have hk_27 : qk st_31 a_25 = 8 := by rw [(mo_X8_settle h0 r_4 r_7 p2 0 _ _ _ hc_32).2.2.1]; exact hk_27
            obtain ⟨e1, e2⟩ := pr_some hf
            exact W.iret (v := r_33) hx hb hr (fun t ht hW => ⟨⟨r_33, (), rfl, e1, Cp.end e2 hp ht⟩, hp.2.1.F ht⟩) hp.2.1.2.2 dX8_drop_86
          · have hf := pif_t c_24 hf
            refine lv_bipush (v := (-2)) hx hb dX8_drop_64 (by decide) ?_
            obtain ⟨e1, e2⟩ := pr_some hf
            exact W.iret (v := (-2)) hx hb hr (fun t ht hW => ⟨⟨(-2), (), rfl, e1, Cp.end e2 hp ht⟩, hp.2.1.F ht⟩) hp.2.1.2.2 dX8_drop_66
        · have hf := pif_t c_17 hf
          refine lv_iconst (v := (-1)) hx hb dX8_drop_48 (by decide) ?_
          obtain ⟨e1, e2⟩ := pr_some hf
          exact W.iret (v := (-1)) hx hb hr (fun t ht hW => ⟨⟨(-1), (), rfl, e1, Cp.end e2 hp ht⟩, hp.2.1.F ht⟩) hp.2.1.2.2 dX8_drop_49
noncomputable def fX8_read (h0 : Nat) (p0 : Int32) (p1 : Int32) (st : CS) : Option (Int32 × CS) := gd (qk st h0 = 11) (bnd (fX8_recordOf h0 p0 st) (fun r_4 st_2 => bnd (fX8_makeOf (qP st_2 h0 2) p1 st_2) (fun r_7 st_5 => nam (wI st_5 h0 9 0) (fun st_8 => nam (wI st_8 h0 10 (-1)) (fun st_9 => pif (r_4 = none) (some (((-2) : Int32), st_9)) (pif (r_7 = none) (some (((-2) : Int32), st_9)) (ono (qP st_9 h0 4) (fun a_12 => gd (qk st_9 a_12 = 6) (bnd (fX3_isSound a_12 r_4 r_7 st_9) (fun r_17 st_15 => pif (r_17 = 0) (ono (qP st_15 h0 4) (fun a_25 => gd (qk st_15 a_25 = 6) (bnd (fX3_faultFound a_25 st_15) (fun r_30 st_28 => nam (wI st_28 h0 9 r_30) (fun st_31 => ono (qP st_31 h0 4) (fun a_32 => gd (qk st_31 a_32 = 6) (bnd (fX3_placeFound a_32 st_31) (fun r_37 st_35 => nam (wI st_35 h0 10 r_37) (fun st_38 => some (((-1) : Int32), st_38)))))))))) (ono (qP st_15 h0 4) (fun a_19 => gd (qk st_15 a_19 = 6) (bnd (fX3_countPieces a_19 r_4 r_7 1 st_15) (fun r_24 st_22 => some (r_24, st_22)))))))))))))))
set_option maxHeartbeats 1000000 in
theorem mo_X8_read (h0 : Nat) (p0 : Int32) (p1 : Int32) (st : CS) (r : Int32) (st' : CS) (hf : fX8_read h0 p0 p1 st = some (r, st')) : Ke st st' := by
  unfold fX8_read at hf
  have hm : Ke st st := Ke.rf
  obtain ⟨hk_1, hf⟩ := gd_some hf
  obtain ⟨r_4, st_2, hc_3, hf⟩ := bnd_some hf
  have hm := hm.tr (mo_X8_recordOf h0 p0 _ _ _ hc_3)
  obtain ⟨r_7, st_5, hc_6, hf⟩ := bnd_some hf
  have hm := hm.tr (mo_X8_makeOf (qP st_2 h0 2) p1 _ _ _ hc_6)
  obtain ⟨st_8, est_8, hf⟩ := nam_some hf
  have hm := hm.wI est_8
  obtain ⟨st_9, est_9, hf⟩ := nam_some hf
  have hm := hm.wI est_9
  rcases pif_or hf with ⟨c_10, hf⟩ | ⟨c_10, hf⟩
  · obtain ⟨e1, e2⟩ := pr_some hf
    exact e2 ▸ hm
  · rcases pif_or hf with ⟨c_11, hf⟩ | ⟨c_11, hf⟩
    · obtain ⟨e1, e2⟩ := pr_some hf
      exact e2 ▸ hm
    · obtain ⟨a_12, ha_13, hf⟩ := ono_some hf
      obtain ⟨hk_14, hf⟩ := gd_some hf
      obtain ⟨r_17, st_15, hc_16, hf⟩ := bnd_some hf
      have hm := hm.tr (mo_X3_isSound a_12 r_4 r_7 _ _ _ hc_16)
      rcases pif_or hf with ⟨c_18, hf⟩ | ⟨c_18, hf⟩
      · obtain ⟨a_25, ha_26, hf⟩ := ono_some hf
        obtain ⟨hk_27, hf⟩ := gd_some hf
        obtain ⟨r_30, st_28, hc_29, hf⟩ := bnd_some hf
        have hm := hm.tr (mo_X3_faultFound a_25 _ _ _ hc_29)
        obtain ⟨st_31, est_31, hf⟩ := nam_some hf
        have hm := hm.wI est_31
        obtain ⟨a_32, ha_33, hf⟩ := ono_some hf
        obtain ⟨hk_34, hf⟩ := gd_some hf
        obtain ⟨r_37, st_35, hc_36, hf⟩ := bnd_some hf
        have hm := hm.tr (mo_X3_placeFound a_32 _ _ _ hc_36)
        obtain ⟨st_38, est_38, hf⟩ := nam_some hf
        have hm := hm.wI est_38
        obtain ⟨e1, e2⟩ := pr_some hf
        exact e2 ▸ hm
      · obtain ⟨a_19, ha_20, hf⟩ := ono_some hf
        obtain ⟨hk_21, hf⟩ := gd_some hf
        obtain ⟨r_24, st_22, hc_23, hf⟩ := bnd_some hf
        have hm := hm.tr (mo_X3_countPieces a_19 r_4 r_7 1 _ _ _ hc_23)
        obtain ⟨e1, e2⟩ := pr_some hf
        exact e2 ▸ hm
def wq_X8_read : List Cond := .code yX8_read cX8_read 5 (some .int) :: (([.fieldLink RX8 24 "RecordBench" "makes" "[LRecordBench$Make;", .fieldLink RX8 66 "RecordBench" "latestFault" "I", .fieldLink RX8 70 "RecordBench" "latestPlace" "I", .fieldLink RX8 42 "RecordBench" "reader" "LRecordBench$RecordReader;", .methodLink RX8 128 yX8_recordOf, .instanceMethod yX8_recordOf, .selects RX8 yX8_recordOf yX8_recordOf, .initialized RX8, .methodLink RX8 136 yX8_makeOf, .static yX8_makeOf, .methodLink RX8 144 yX3_isSound, .instanceMethod yX3_isSound, .selects RX3 yX3_isSound yX3_isSound, .initialized RX3, .methodLink RX8 180 yX3_countPieces, .instanceMethod yX3_countPieces, .selects RX3 yX3_countPieces yX3_countPieces, .methodLink RX8 178 yX3_faultFound, .instanceMethod yX3_faultFound, .selects RX3 yX3_faultFound yX3_faultFound, .methodLink RX8 179 yX3_placeFound, .instanceMethod yX3_placeFound, .selects RX3 yX3_placeFound yX3_placeFound, .code yX8_recordOf cX8_recordOf 2 (some (.object "RecordBench$Row")), .fieldLink RX8 18 "RecordBench" "records" "[LRecordBench$Row;", .code yX8_makeOf cX8_makeOf 2 (some (.object "RecordBench$Make")), .code yX3_isSound cX3_isSound 3 (some .boolean), .fieldLink RX3 22 "RecordBench$RecordReader" "fault" "I", .fieldLink RX3 26 "RecordBench$RecordReader" "place" "I", .methodLink RX3 29 yX5_size, .instanceMethod yX5_size, .selects RX5 yX5_size yX5_size, .initialized RX5, .methodLink RX3 35 yX3_scan, .instanceMethod yX3_scan, .selects RX3 yX3_scan yX3_scan, .code yX5_size cX5_size 1 (some .int), .fieldLink RX5 21 "RecordBench$Row" "size" "I", .code yX3_scan cX3_scan 13 (some .boolean), .fieldLink RX3 17 "RecordBench$RecordReader" "pieces" "[LRecordBench$Piece;", .methodLink RX3 79 yX3_groupBit, .static yX3_groupBit, .methodLink RX3 43 yX2_look, .instanceMethod yX2_look, .selects RX2 yX2_look yX2_look, .initialized RX2, .methodLink RX3 50 yX1_knownAt, .instanceMethod yX1_knownAt, .selects RX1 yX1_knownAt yX1_knownAt, .initialized RX1, .methodLink RX3 56 yX3_faultOf, .static yX3_faultOf, .methodLink RX3 60 yX3_isRec, .static yX3_isRec, .fieldLink RX3 9 "RecordBench$RecordReader" "makes" "[LRecordBench$Make;", .methodLink RX3 39 yX3_refuse, .instanceMethod yX3_refuse, .selects RX3 yX3_refuse yX3_refuse, .code yX3_groupBit cX3_groupBit 1 (some .int), .code yX2_look cX2_look 6 none, .fieldLink RX2 9 "RecordBench$Piece" "number" "I", .fieldLink RX2 15 "RecordBench$Piece" "withLength" "Z", .fieldLink RX2 19 "RecordBench$Piece" "raw" "J", .fieldLink RX2 23 "RecordBench$Piece" "body" "I", .fieldLink RX2 26 "RecordBench$Piece" "end" "I", .fieldLink RX2 29 "RecordBench$Piece" "fault" "I", .fieldLink RX2 32 "RecordBench$Piece" "pos" "I", .fieldLink RX2 35 "RecordBench$Piece" "broken" "Z", .methodLink RX2 42 yX2_place, .instanceMethod yX2_place, .selects RX2 yX2_place yX2_place, .methodLink RX2 38 yX2_takeVarint, .instanceMethod yX2_takeVarint, .selects RX2 yX2_takeVarint yX2_takeVarint, .code yX2_place cX2_place 6 none, .constantLong RX2 46 (30), .code yX2_takeVarint cX2_takeVarint 7 (some .long), .constantLong RX2 54 (127), .methodLink RX2 48 yX5_byteAt, .instanceMethod yX5_byteAt, .selects RX5 yX5_byteAt yX5_byteAt, .code yX5_byteAt cX5_byteAt 2 (some .int), .fieldLink RX5 15 "RecordBench$Row" "bytes" "[I", .code yX1_knownAt cX1_knownAt 3 (some (.object "RecordBench$Field")), .methodLink RX1 21 yX1_fieldAt, .instanceMethod yX1_fieldAt, .selects RX1 yX1_fieldAt yX1_fieldAt, .code yX1_fieldAt cX1_fieldAt 2 (some (.object "RecordBench$Field")), .fieldLink RX1 11 "RecordBench$Make" "fields" "[LRecordBench$Field;", .code yX3_faultOf cX3_faultOf 5 (some .int), .methodLink RX3 92 yX3_fits, .static yX3_fits, .methodLink RX3 88 yX0_hasLength, .instanceMethod yX0_hasLength, .selects RX0 yX0_hasLength yX0_hasLength, .initialized RX0, .code yX3_fits cX3_fits 3 (some .boolean), .methodLink RX3 96 yX0_isNumber, .instanceMethod yX0_isNumber, .selects RX0 yX0_isNumber yX0_isNumber, .methodLink RX3 110 yX5_isText, .instanceMethod yX5_isText, .selects RX5 yX5_isText yX5_isText, .methodLink RX3 99 yX2_asNumber, .instanceMethod yX2_asNumber, .selects RX2 yX2_asNumber yX2_asNumber, .methodLink RX3 103 yX0_holds, .instanceMethod yX0_holds, .selects RX0 yX0_holds yX0_holds, .code yX0_isNumber cX0_isNumber 1 (some .boolean), .fieldLink RX0 15 "RecordBench$Field" "kind" "I", .code yX5_isText cX5_isText 4 (some .boolean), .methodLink RX5 48 yX5_byteAt, .methodLink RX5 52 yX5_isTextByte, .static yX5_isTextByte, .code yX5_isTextByte cX5_isTextByte 1 (some .boolean), .code yX2_asNumber cX2_asNumber 1 (some .long), .code yX0_holds cX0_holds 3 (some .boolean), .constantLong RX0 37 (-128), .constantLong RX0 39 (127), .constantLong RX0 41 (-2147483648), .constantLong RX0 43 (2147483647), .code yX0_hasLength cX0_hasLength 1 (some .boolean), .code yX3_isRec cX3_isRec 1 (some .boolean), .code yX3_refuse cX3_refuse 3 (some .boolean), .code yX3_countPieces cX3_countPieces 8 (some .int), .code yX3_faultFound cX3_faultFound 1 (some .int), .code yX3_placeFound cX3_placeFound 1 (some .int)] : List Cond) ++ wsX80 ++ wsX30 ++ wsX50 ++ wsX20 ++ wsX00 ++ wsX10)
theorem gs_wq_X8_read_wsX80 : GoodIn wq_X8_read wsX80 := fun w h => ⟨List.mem_cons_of_mem _ (List.mem_append_left _ (List.mem_append_left _ (List.mem_append_left _ (List.mem_append_left _ (List.mem_append_left _ (List.mem_append_right _ h)))))), (gt_wsX80 w h).2⟩
set_option maxRecDepth 20000 in
theorem gq_X8_read_X8_recordOf_128 : GoodIn wq_X8_read (wsV RX8 128 RX8 yX8_recordOf wq_X8_recordOf) := goodIn_app (goodIn_r _ [5, 6, 7, 8] rfl rfl) (goodIn_ca (goodIn_r _ [24, 25] rfl rfl) gs_wq_X8_read_wsX80)
set_option maxRecDepth 20000 in
theorem gq_X8_read_X8_makeOf_136 : GoodIn wq_X8_read (va_wsS RX8 136 yX8_makeOf wq_X8_makeOf) := goodIn_app (goodIn_r _ [9, 10, 8] rfl rfl) (goodIn_r _ [26] rfl rfl)
theorem gs_wq_X8_read_wsX30 : GoodIn wq_X8_read wsX30 := fun w h => ⟨List.mem_cons_of_mem _ (List.mem_append_left _ (List.mem_append_left _ (List.mem_append_left _ (List.mem_append_left _ (List.mem_append_right _ h))))), (gt_wsX30 w h).2⟩
theorem gs_wq_X8_read_wsX50 : GoodIn wq_X8_read wsX50 := fun w h => ⟨List.mem_cons_of_mem _ (List.mem_append_left _ (List.mem_append_left _ (List.mem_append_left _ (List.mem_append_right _ h)))), (gt_wsX50 w h).2⟩
theorem gs_wq_X8_read_wsX20 : GoodIn wq_X8_read wsX20 := fun w h => ⟨List.mem_cons_of_mem _ (List.mem_append_left _ (List.mem_append_left _ (List.mem_append_right _ h))), (gt_wsX20 w h).2⟩
theorem gs_wq_X8_read_wsX00 : GoodIn wq_X8_read wsX00 := fun w h => ⟨List.mem_cons_of_mem _ (List.mem_append_left _ (List.mem_append_right _ h)), (gt_wsX00 w h).2⟩
theorem gs_wq_X8_read_wsX10 : GoodIn wq_X8_read wsX10 := fun w h => ⟨List.mem_cons_of_mem _ (List.mem_append_right _ h), (gt_wsX10 w h).2⟩
set_option maxRecDepth 20000 in
theorem gq_X8_read_X3_isSound_144 : GoodIn wq_X8_read (wsV RX8 144 RX3 yX3_isSound wq_X3_isSound) := goodIn_app (goodIn_r _ [11, 12, 13, 14] rfl rfl) (goodIn_ca (goodIn_ca (goodIn_ca (goodIn_ca (goodIn_ca (goodIn_r _ [27, 28, 29, 30, 31, 32, 33, 34, 35, 36, 14, 37, 38, 39, 40, 41, 42, 43, 44, 45, 46, 47, 48, 49, 50, 51, 52, 53, 54, 55, 10, 8, 56, 57, 58, 59, 60, 61, 62, 63, 64, 65, 66, 67, 68, 69, 70, 71, 72, 73, 74, 75, 76, 77, 78, 79, 80, 81, 82, 83, 84, 85, 86, 87, 88, 89, 90, 91, 92, 93, 94, 95, 96, 97, 98, 99, 100, 101, 102, 103, 104, 105, 106, 107, 108, 109, 110, 111, 112, 113, 114, 115, 116, 117, 118, 119, 120, 121, 122, 123, 124, 26, 125] rfl rfl) gs_wq_X8_read_wsX30) gs_wq_X8_read_wsX50) gs_wq_X8_read_wsX20) gs_wq_X8_read_wsX00) gs_wq_X8_read_wsX10)
set_option maxRecDepth 20000 in
theorem gq_X8_read_X3_countPieces_180 : GoodIn wq_X8_read (wsV RX8 180 RX3 yX3_countPieces wq_X3_countPieces) := goodIn_app (goodIn_r _ [15, 16, 17, 14] rfl rfl) (goodIn_ca (goodIn_ca (goodIn_ca (goodIn_ca (goodIn_ca (goodIn_r _ [126, 40, 30, 31, 32, 33, 43, 44, 45, 46, 47, 48, 49, 50, 37, 38, 60, 61, 62, 63, 64, 65, 66, 67, 68, 69, 70, 71, 72, 73, 74, 75, 76, 77, 78, 79, 80, 81, 82, 83, 84, 85, 86, 87, 88, 89] rfl rfl) gs_wq_X8_read_wsX30) gs_wq_X8_read_wsX20) gs_wq_X8_read_wsX50) gs_wq_X8_read_wsX00) gs_wq_X8_read_wsX10)
set_option maxRecDepth 20000 in
theorem gq_X8_read_X3_faultFound_178 : GoodIn wq_X8_read (wsV RX8 178 RX3 yX3_faultFound wq_X3_faultFound) := goodIn_app (goodIn_r _ [18, 19, 20, 14] rfl rfl) (goodIn_ca (goodIn_r _ [127, 28] rfl rfl) gs_wq_X8_read_wsX30)
set_option maxRecDepth 20000 in
theorem gq_X8_read_X3_placeFound_179 : GoodIn wq_X8_read (wsV RX8 179 RX3 yX3_placeFound wq_X3_placeFound) := goodIn_app (goodIn_r _ [21, 22, 23, 14] rfl rfl) (goodIn_ca (goodIn_r _ [128, 29] rfl rfl) gs_wq_X8_read_wsX30)
set_option maxHeartbeats 4000000 in
set_option maxRecDepth 100000 in
theorem c_X8_read (l : Launch) (dC : Nat → ClassId) (dI : Nat → Nat → Nat) (ka ad : Nat → Nat) (ct : Nat → ClassId) (h0 : Nat) (p0 : Int32) (p1 : Int32) (st st' : CS) (r : Int32) (hf : fX8_read h0 p0 p1 st = some (r, st')) (sz : Nat) : Met l yX8_read wq_X8_read ({ frames := 50, cells := 0, slots := 0, locals := 1334 }) (va_Pc [.ref (ad h0), .int p0, .int p1] (PrC (dC, dI) ct ka ad st sz)) (va_Qi (fun r' (_ : Unit) => r' = r) (fun _ => CB (dC, dI) ct ka ad st' (aC ad st sz)) (aC ad st sz)) 0 0 (aC ad st sz) := by
  refine Met.ofW (cc := cX8_read) (maxL := 5) (ret := (some .int)) (by decide) rfl ?_
  intro p e s m args below meth c s₁ B hml hv
  obtain ⟨rfl, hsz, hw0, hK, hN, hZ, hC, hR, hL, hw1, hw2⟩ := hv
  have hx := B.exec
  have hb := B.bytes
  have hr := B.returns
  have hts := atoms_spec (ws := wq_X8_read) B.pre
  have hown : s.vm.findClass RX8 = some m.cls := findClass_of_methodNamed B.named
  have iRX8 : ∀ w ∈ u_ws RX8 TX8 12, w ∈ wq_X8_read := fun w h => List.mem_cons_of_mem _ (List.mem_append_left _ (List.mem_append_left _ (List.mem_append_left _ (List.mem_append_left _ (List.mem_append_left _ (List.mem_append_right _ h))))))
  subst hsz
  have hp : Cp (dC, dI) ka ad ct (aC ad st s.heap.size) s.heap st s.heap [] := ⟨fun i a b => ⟨hw0 i a b, Or.inl ⟨i, a, b, rfl⟩⟩, va_S.rf, hw1, hw2⟩
  generalize hAe : aC ad st s.heap.size = A at hp hZ hC ⊢
  have hA : ∀ q : Nat, s.heap.size ≤ q → A q := fun q h => by rw [← hAe]; exact Or.inr h
  have hl := lv_entry ([.ref (ad h0), .int p0, .int p1]) (n := 5) (Nat.le_of_ble_eq_true rfl)
  rw [lg_entry_eq]
  generalize (lg_sl ([.ref (ad h0), .int p0, .int p1]) ++ List.replicate (5 - (lg_sl ([.ref (ad h0), .int p0, .int p1])).length) Slot.unset).toArray = ls at hl ⊢
  have hl : lv_has ls 5 [(0, .ref (ad h0)), (1, .int p0), (2, .int p1)] := hl
  unfold fX8_read at hf
  refine lv_aload_n hx hb dX8_read_0 rfl (lv_at hl 0 rfl) ?_
  refine lv_iload_n hx hb dX8_read_1 rfl (lv_at hl 1 rfl) ?_
  obtain ⟨hk_1, hf⟩ := gd_some hf
  obtain ⟨r_4, st_2, hc_3, hf⟩ := bnd_some hf
  refine q_cq hp hA (va_runV (As := [.int p0]) (rest := []) ⟨hx, hb, hml, hown, hts⟩ (c_X8_recordOf l dC dI ka ad ct h0 p0 _ _ _ hc_3 _) (cwV 1 hts gq_X8_read_X8_recordOf_128 rfl rfl rfl (by decide +kernel) ⟨Nat.le_of_ble_eq_true rfl, Nat.le_of_ble_eq_true rfl⟩) ⟨PrC.blind _, q_rv10 hK hp hC hk_1, q_pre hp hK hN hZ hC hR hL hA⟩ rfl rfl hl.1 rfl (lv_room (Nat.le_of_ble_eq_true rfl)) dX8_read_2 ⟨Nat.le_of_ble_eq_true rfl, Nat.le_of_ble_eq_true rfl⟩) (fun H locs hp => ?_)
  have hk_1 : qk st_2 h0 = 11 := by rw [(mo_X8_recordOf h0 p0 _ _ _ hc_3).2.2.1]; exact hk_1
  refine o_astore_n (i := 3) (lv' := [(3, va_rf (Option.map ad r_4)), (0, .ref (ad h0)), (1, .int p0), (2, .int p1)]) hx hb dX8_read_5 rfl hl (by decide) rfl (fun ls hl => ?_)
  refine lv_aload_n hx hb dX8_read_6 rfl (lv_at hl 1 rfl) ?_
  refine q_gp (ci := 10) (C := RX8) (T := TX8) (N := 12) (k := 2) hx hb hts iRX8 hown hK hp hk_1 (by decide) rfl rfl (by decide) rfl (Or.inl (hts (.fieldLink RX8 24 "RecordBench" "makes" "[LRecordBench$Make;") (by decide +kernel))) (fun _ h9 => h9) dX8_read_7 ?_
  refine lv_iload_n hx hb dX8_read_10 rfl (lv_at hl 3 rfl) ?_
  obtain ⟨r_7, st_5, hc_6, hf⟩ := bnd_some hf
  refine q_cq hp hA (va_runS (As := [va_rf (Option.map ad (qP st_2 h0 2)), .int p1]) (rest := []) ⟨hx, hb, hml, hown, hts⟩ (c_X8_makeOf l dC dI ka ad ct (qP st_2 h0 2) p1 _ _ _ hc_6 _) (va_cwS 2 hts gq_X8_read_X8_makeOf_136 rfl rfl rfl (by decide +kernel) ⟨Nat.le_of_ble_eq_true rfl, Nat.le_of_ble_eq_true rfl⟩) ⟨PrC.blind _, q_pre hp hK hN hZ hC hR hL hA⟩ rfl rfl hl.1 rfl (lv_room (Nat.le_of_ble_eq_true rfl)) dX8_read_11 ⟨Nat.le_of_ble_eq_true rfl, Nat.le_of_ble_eq_true rfl⟩) (fun H locs hp => ?_)
  have hk_1 : qk st_5 h0 = 11 := by rw [(mo_X8_makeOf (qP st_2 h0 2) p1 _ _ _ hc_6).2.2.1]; exact hk_1
  refine o_astore (i := 4) (lv' := [(4, va_rf (Option.map ad r_7)), (3, va_rf (Option.map ad r_4)), (0, .ref (ad h0)), (1, .int p0), (2, .int p1)]) hx hb dX8_read_14 hl (by decide) (by simp [rf_cat, vc_i, vc_l, vc_r, vc_n]) (fun ls hl => ?_)
  refine lv_aload_n hx hb dX8_read_16 rfl (lv_at hl 2 rfl) ?_
  refine lv_iconst (v := 0) hx hb dX8_read_17 (by decide) ?_
  refine q_pi (ci := 10) (C := RX8) (T := TX8) (N := 12) (k := 9) (v := 0) (ty := .int) hx hb hts iRX8 tyX8 tyX8_ok nmX8 hown hK hp hk_1 (by decide) rfl rfl (by decide) rfl (Or.inl (hts (.fieldLink RX8 66 "RecordBench" "latestFault" "I") (by decide +kernel))) (fun _ h9 => h9) rfl (by decide +kernel) rfl rfl dX8_read_18 (fun H locs hp => ?_)
  obtain ⟨st_8, est_8, hf⟩ := nam_some hf
  rw [← est_8] at hp
  have hk_1 : qk st_8 h0 = 11 := by rw [est_8]; exact hk_1
  refine lv_aload_n hx hb dX8_read_21 rfl (lv_at hl 2 rfl) ?_
  refine lv_iconst (v := (-1)) hx hb dX8_read_22 (by decide) ?_
  refine q_pi (ci := 10) (C := RX8) (T := TX8) (N := 12) (k := 10) (v := (-1)) (ty := .int) hx hb hts iRX8 tyX8 tyX8_ok nmX8 hown hK hp hk_1 (by decide) rfl rfl (by decide) rfl (Or.inl (hts (.fieldLink RX8 70 "RecordBench" "latestPlace" "I") (by decide +kernel))) (fun _ h9 => h9) rfl (by decide +kernel) rfl rfl dX8_read_23 (fun H locs hp => ?_)
  obtain ⟨st_9, est_9, hf⟩ := nam_some hf
  rw [← est_9] at hp
  have hk_1 : qk st_9 h0 = 11 := by rw [est_9]; exact hk_1
  refine o_aload_n hx hb dX8_read_26 rfl (lv_at hl 1 rfl) ?_
  refine o_ifnull (tgt := 35) hx hb dX8_read_27 (by decide) (fun c_10 => ?_) (fun c_10 => ?_)
  · have hf := pif_t c_10 hf
    refine lv_bipush (v := (-2)) hx hb dX8_read_35 (by decide) ?_
    obtain ⟨e1, e2⟩ := pr_some hf
    exact W.iret (v := (-2)) hx hb hr (fun t ht hW => ⟨⟨(-2), (), rfl, e1, Cp.end e2 hp ht⟩, hp.2.1.F ht⟩) hp.2.1.2.2 dX8_read_37
  · have hf := pif_f c_10 hf
    refine o_aload hx hb dX8_read_30 (lv_at hl 0 rfl) ?_
    refine o_ifnonnull (tgt := 38) hx hb dX8_read_32 (by decide) (fun c_11 => ?_) (fun c_11 => ?_)
    · have hf := pif_f c_11 hf
      refine lv_aload_n hx hb dX8_read_38 rfl (lv_at hl 2 rfl) ?_
      refine q_gp (ci := 10) (C := RX8) (T := TX8) (N := 12) (k := 4) hx hb hts iRX8 hown hK hp hk_1 (by decide) rfl rfl (by decide) rfl (Or.inl (hts (.fieldLink RX8 42 "RecordBench" "reader" "LRecordBench$RecordReader;") (by decide +kernel))) (fun _ h9 => h9) dX8_read_39 ?_
      refine o_aload_n hx hb dX8_read_42 rfl (lv_at hl 1 rfl) ?_
      refine o_aload hx hb dX8_read_43 (lv_at hl 0 rfl) ?_
      obtain ⟨a_12, ha_13, hf⟩ := ono_some hf
      refine o_at2 ha_13 ?_
      obtain ⟨hk_14, hf⟩ := gd_some hf
      obtain ⟨r_17, st_15, hc_16, hf⟩ := bnd_some hf
      refine q_ci hp hA (va_runV (As := [va_rf (Option.map ad r_4), va_rf (Option.map ad r_7)]) (rest := []) ⟨hx, hb, hml, hown, hts⟩ (c_X3_isSound l dC dI ka ad ct a_12 r_4 r_7 _ _ _ hc_16 _) (cwV 2 hts gq_X8_read_X3_isSound_144 rfl rfl rfl (by decide +kernel) ⟨Nat.le_of_ble_eq_true rfl, Nat.le_of_ble_eq_true rfl⟩) ⟨PrC.blind _, q_rv5 hK hp hC hk_14, q_pre hp hK hN hZ hC hR hL hA⟩ rfl rfl hl.1 rfl (lv_room (Nat.le_of_ble_eq_true rfl)) dX8_read_45 ⟨Nat.le_of_ble_eq_true rfl, Nat.le_of_ble_eq_true rfl⟩) (fun H locs hp => ?_)
      have hk_1 : qk st_15 h0 = 11 := by rw [(mo_X3_isSound a_12 r_4 r_7 _ _ _ hc_16).2.2.1]; exact hk_1
      have hk_14 : qk st_15 a_12 = 6 := by rw [(mo_X3_isSound a_12 r_4 r_7 _ _ _ hc_16).2.2.1]; exact hk_14
      refine lv_if_ne (tgt := 75) hx hb dX8_read_48 (by decide) (fun c_18 => ?_) (fun c_18 => ?_)
      · have hf := pif_f c_18 hf
        refine lv_aload_n hx hb dX8_read_75 rfl (lv_at hl 2 rfl) ?_
        refine q_gp (ci := 10) (C := RX8) (T := TX8) (N := 12) (k := 4) hx hb hts iRX8 hown hK hp hk_1 (by decide) rfl rfl (by decide) rfl (Or.inl (hts (.fieldLink RX8 42 "RecordBench" "reader" "LRecordBench$RecordReader;") (by decide +kernel))) (fun _ h9 => h9) dX8_read_76 ?_
        refine o_aload_n hx hb dX8_read_79 rfl (lv_at hl 1 rfl) ?_
        refine o_aload hx hb dX8_read_80 (lv_at hl 0 rfl) ?_
        refine lv_iconst (v := 1) hx hb dX8_read_82 (by decide) ?_
        obtain ⟨a_19, ha_20, hf⟩ := ono_some hf
        refine o_at3 ha_20 ?_
        obtain ⟨hk_21, hf⟩ := gd_some hf
        obtain ⟨r_24, st_22, hc_23, hf⟩ := bnd_some hf
        refine q_ci hp hA (va_runV (As := [va_rf (Option.map ad r_4), va_rf (Option.map ad r_7), .int 1]) (rest := []) ⟨hx, hb, hml, hown, hts⟩ (c_X3_countPieces l dC dI ka ad ct a_19 r_4 r_7 1 _ _ _ hc_23 _) (cwV 3 hts gq_X8_read_X3_countPieces_180 rfl rfl rfl (by decide +kernel) ⟨Nat.le_of_ble_eq_true rfl, Nat.le_of_ble_eq_true rfl⟩) ⟨PrC.blind _, q_rv5 hK hp hC hk_21, q_pre hp hK hN hZ hC hR hL hA⟩ rfl rfl hl.1 rfl (lv_room (Nat.le_of_ble_eq_true rfl)) dX8_read_83 ⟨Nat.le_of_ble_eq_true rfl, Nat.le_of_ble_eq_true rfl⟩) (fun H locs hp => ?_)
        have hk_1 : qk st_22 h0 = 11 := by rw [(mo_X3_countPieces a_19 r_4 r_7 1 _ _ _ hc_23).2.2.1]; exact hk_1
        have hk_14 : qk st_22 a_12 = 6 := by rw [(mo_X3_countPieces a_19 r_4 r_7 1 _ _ _ hc_23).2.2.1]; exact hk_14
        have hk_21 : qk st_22 a_19 = 6 := by rw [(mo_X3_countPieces a_19 r_4 r_7 1 _ _ _ hc_23).2.2.1]; exact hk_21
        obtain ⟨e1, e2⟩ := pr_some hf
        exact W.iret (v := r_24) hx hb hr (fun t ht hW => ⟨⟨r_24, (), rfl, e1, Cp.end e2 hp ht⟩, hp.2.1.F ht⟩) hp.2.1.2.2 dX8_read_86
      · have hf := pif_t c_18 hf
        refine lv_aload_n hx hb dX8_read_51 rfl (lv_at hl 2 rfl) ?_
        refine lv_aload_n hx hb dX8_read_52 rfl (lv_at hl 2 rfl) ?_
        refine q_gp (ci := 10) (C := RX8) (T := TX8) (N := 12) (k := 4) hx hb hts iRX8 hown hK hp hk_1 (by decide) rfl rfl (by decide) rfl (Or.inl (hts (.fieldLink RX8 42 "RecordBench" "reader" "LRecordBench$RecordReader;") (by decide +kernel))) (fun _ h9 => h9) dX8_read_53 ?_
        obtain ⟨a_25, ha_26, hf⟩ := ono_some hf
        refine o_at ha_26 ?_
        obtain ⟨hk_27, hf⟩ := gd_some hf
        obtain ⟨r_30, st_28, hc_29, hf⟩ := bnd_some hf
        refine q_ci hp hA (va_runV (As := []) (rest := [.ref (ad h0)]) ⟨hx, hb, hml, hown, hts⟩ (c_X3_faultFound l dC dI ka ad ct a_25 _ _ _ hc_29 _) (cwV 0 hts gq_X8_read_X3_faultFound_178 rfl rfl rfl (by decide +kernel) ⟨Nat.le_of_ble_eq_true rfl, Nat.le_of_ble_eq_true rfl⟩) ⟨PrC.blind _, q_rv5 hK hp hC hk_27, q_pre hp hK hN hZ hC hR hL hA⟩ rfl rfl hl.1 rfl (lv_room (Nat.le_of_ble_eq_true rfl)) dX8_read_56 ⟨Nat.le_of_ble_eq_true rfl, Nat.le_of_ble_eq_true rfl⟩) (fun H locs hp => ?_)
        have hk_1 : qk st_28 h0 = 11 := by rw [(mo_X3_faultFound a_25 _ _ _ hc_29).2.2.1]; exact hk_1
        have hk_14 : qk st_28 a_12 = 6 := by rw [(mo_X3_faultFound a_25 _ _ _ hc_29).2.2.1]; exact hk_14
        have hk_27 : qk st_28 a_25 = 6 := by rw [(mo_X3_faultFound a_25 _ _ _ hc_29).2.2.1]; exact hk_27
        refine q_pi (ci := 10) (C := RX8) (T := TX8) (N := 12) (k := 9) (v := r_30) (ty := .int) hx hb hts iRX8 tyX8 tyX8_ok nmX8 hown hK hp hk_1 (by decide) rfl rfl (by decide) rfl (Or.inl (hts (.fieldLink RX8 66 "RecordBench" "latestFault" "I") (by decide +kernel))) (fun _ h9 => h9) rfl (by decide +kernel) rfl rfl dX8_read_59 (fun H locs hp => ?_)
        obtain ⟨st_31, est_31, hf⟩ := nam_some hf
        rw [← est_31] at hp
        have hk_1 : qk st_31 h0 = 11 := by rw [est_31]; exact hk_1
        have hk_14 : qk st_31 a_12 = 6 := by rw [est_31]; exact hk_14
        have hk_27 : qk st_31 a_25 = 6 := by rw [est_31]; exact hk_27
        refine lv_aload_n hx hb dX8_read_62 rfl (lv_at hl 2 rfl) ?_
        refine lv_aload_n hx hb dX8_read_63 rfl (lv_at hl 2 rfl) ?_
        refine q_gp (ci := 10) (C := RX8) (T := TX8) (N := 12) (k := 4) hx hb hts iRX8 hown hK hp hk_1 (by decide) rfl rfl (by decide) rfl (Or.inl (hts (.fieldLink RX8 42 "RecordBench" "reader" "LRecordBench$RecordReader;") (by decide +kernel))) (fun _ h9 => h9) dX8_read_64 ?_
        obtain ⟨a_32, ha_33, hf⟩ := ono_some hf
        refine o_at ha_33 ?_
        obtain ⟨hk_34, hf⟩ := gd_some hf
        obtain ⟨r_37, st_35, hc_36, hf⟩ := bnd_some hf
        refine q_ci hp hA (va_runV (As := []) (rest := [.ref (ad h0)]) ⟨hx, hb, hml, hown, hts⟩ (c_X3_placeFound l dC dI ka ad ct a_32 _ _ _ hc_36 _) (cwV 0 hts gq_X8_read_X3_placeFound_179 rfl rfl rfl (by decide +kernel) ⟨Nat.le_of_ble_eq_true rfl, Nat.le_of_ble_eq_true rfl⟩) ⟨PrC.blind _, q_rv5 hK hp hC hk_34, q_pre hp hK hN hZ hC hR hL hA⟩ rfl rfl hl.1 rfl (lv_room (Nat.le_of_ble_eq_true rfl)) dX8_read_67 ⟨Nat.le_of_ble_eq_true rfl, Nat.le_of_ble_eq_true rfl⟩) (fun H locs hp => ?_)
        have hk_1 : qk st_35 h0 = 11 := by rw [(mo_X3_placeFound a_32 _ _ _ hc_36).2.2.1]; exact hk_1
        have hk_14 : qk st_35 a_12 = 6 := by rw [(mo_X3_placeFound a_32 _ _ _ hc_36).2.2.1]; exact hk_14
        have hk_27 : qk st_35 a_25 = 6 := by rw [(mo_X3_placeFound a_32 _ _ _ hc_36).2.2.1]; exact hk_27
        have hk_34 : qk st_35 a_32 = 6 := by rw [(mo_X3_placeFound a_32 _ _ _ hc_36).2.2.1]; exact hk_34
        refine q_pi (ci := 10) (C := RX8) (T := TX8) (N := 12) (k := 10) (v := r_37) (ty := .int) hx hb hts iRX8 tyX8 tyX8_ok nmX8 hown hK hp hk_1 (by decide) rfl rfl (by decide) rfl (Or.inl (hts (.fieldLink RX8 70 "RecordBench" "latestPlace" "I") (by decide +kernel))) (fun _ h9 => h9) rfl (by decide +kernel) rfl rfl dX8_read_70 (fun H locs hp => ?_)
        obtain ⟨st_38, est_38, hf⟩ := nam_some hf
        rw [← est_38] at hp
        have hk_1 : qk st_38 h0 = 11 := by rw [est_38]; exact hk_1
        have hk_14 : qk st_38 a_12 = 6 := by rw [est_38]; exact hk_14
        have hk_27 : qk st_38 a_25 = 6 := by rw [est_38]; exact hk_27
        have hk_34 : qk st_38 a_32 = 6 := by rw [est_38]; exact hk_34
        refine lv_iconst (v := (-1)) hx hb dX8_read_73 (by decide) ?_
        obtain ⟨e1, e2⟩ := pr_some hf
        exact W.iret (v := (-1)) hx hb hr (fun t ht hW => ⟨⟨(-1), (), rfl, e1, Cp.end e2 hp ht⟩, hp.2.1.F ht⟩) hp.2.1.2.2 dX8_read_74
    · have hf := pif_t c_11 hf
      refine lv_bipush (v := (-2)) hx hb dX8_read_35 (by decide) ?_
      obtain ⟨e1, e2⟩ := pr_some hf
      exact W.iret (v := (-2)) hx hb hr (fun t ht hW => ⟨⟨(-2), (), rfl, e1, Cp.end e2 hp ht⟩, hp.2.1.F ht⟩) hp.2.1.2.2 dX8_read_37
noncomputable def fX8_get_95 (h0 : Nat)  (l4 : Int32) (l7 : Option Nat) (s0 : Option Nat) (gs : CS) : Option (Int64 × CS) := pif (l4 = 0) (pif (s0 = none) (some ((0 : Int64), gs)) (some ((1 : Int64), gs))) (pif (s0 = none) (ono l7 (fun a_9 => gd (qk gs a_9 = 3) (bnd (fX0_plainNumber a_9 gs) (fun r_14 st_12 => some (r_14, st_12))))) (ono s0 (fun a_3 => gd (qk gs a_3 = 5) (bnd (fX2_tells a_3 gs) (fun r_8 st_6 => some (r_8, st_6))))))
set_option maxHeartbeats 1000000 in
theorem mo_X8_get_95 (h0 : Nat)   (l4 : Int32) (l7 : Option Nat) (s0 : Option Nat) (gs : CS) (r : Int64) (st' : CS) (hf : fX8_get_95 h0 l4 l7 s0 gs = some (r, st')) : Ke gs st' := by
  unfold fX8_get_95 at hf
  have hm : Ke gs gs := Ke.rf
  rcases pif_or hf with ⟨c_1, hf⟩ | ⟨c_1, hf⟩
  · rcases pif_or hf with ⟨c_15, hf⟩ | ⟨c_15, hf⟩
    · obtain ⟨e1, e2⟩ := pr_some hf
      exact e2 ▸ hm
    · obtain ⟨e1, e2⟩ := pr_some hf
      exact e2 ▸ hm
  · rcases pif_or hf with ⟨c_2, hf⟩ | ⟨c_2, hf⟩
    · obtain ⟨a_9, ha_10, hf⟩ := ono_some hf
      obtain ⟨hk_11, hf⟩ := gd_some hf
      obtain ⟨r_14, st_12, hc_13, hf⟩ := bnd_some hf
      have hm := hm.tr (mo_X0_plainNumber a_9 _ _ _ hc_13)
      obtain ⟨e1, e2⟩ := pr_some hf
      exact e2 ▸ hm
    · obtain ⟨a_3, ha_4, hf⟩ := ono_some hf
      obtain ⟨hk_5, hf⟩ := gd_some hf
      obtain ⟨r_8, st_6, hc_7, hf⟩ := bnd_some hf
      have hm := hm.tr (mo_X2_tells a_3 _ _ _ hc_7)
      obtain ⟨e1, e2⟩ := pr_some hf
      exact e2 ▸ hm
noncomputable def fX8_get (h0 : Nat) (p0 : Int32) (p1 : Int32) (p2 : Int32) (p3 : Int32) (st : CS) : Option (Int64 × CS) := gd (qk st h0 = 11) (bnd (fX8_recordOf h0 p0 st) (fun r_19 st_17 => bnd (fX8_makeOf (qP st_17 h0 2) p1 st_17) (fun r_22 st_20 => bnd (fX8_fieldOf h0 p1 p2 st_20) (fun r_25 st_23 => pif (r_19 = none) (some (((-9000000000000000000) : Int64), st_23)) (pif (r_22 = none) (some (((-9000000000000000000) : Int64), st_23)) (pif (r_25 = none) (some (((-9000000000000000000) : Int64), st_23)) (pif (p3 < 0) (some (((-9000000000000000000) : Int64), st_23)) (pif (p3 ≤ 1) (ono (qP st_23 h0 4) (fun a_31 => gd (qk st_23 a_31 = 6) (bnd (fX3_isSound a_31 r_19 r_22 st_23) (fun r_36 st_34 => pif (r_36 = 0) (some (((-9000000000000000000) : Int64), st_34)) (ono r_25 (fun a_38 => gd (qk st_34 a_38 = 3) (pif ((qI st_34 a_38 1) = 0) (fX8_get_95 h0 p3 r_25 none st_34) (ono (qP st_34 h0 4) (fun a_42 => gd (qk st_34 a_42 = 6) (bnd (fX3_find a_42 r_19 p2 st_34) (fun r_47 st_45 => fX8_get_95 h0 p3 r_25 r_47 st_45))))))))))) (some (((-9000000000000000000) : Int64), st_23))))))))))
set_option maxHeartbeats 1000000 in
theorem mo_X8_get (h0 : Nat) (p0 : Int32) (p1 : Int32) (p2 : Int32) (p3 : Int32) (st : CS) (r : Int64) (st' : CS) (hf : fX8_get h0 p0 p1 p2 p3 st = some (r, st')) : Ke st st' := by
  unfold fX8_get at hf
  have hm : Ke st st := Ke.rf
  obtain ⟨hk_16, hf⟩ := gd_some hf
  obtain ⟨r_19, st_17, hc_18, hf⟩ := bnd_some hf
  have hm := hm.tr (mo_X8_recordOf h0 p0 _ _ _ hc_18)
  obtain ⟨r_22, st_20, hc_21, hf⟩ := bnd_some hf
  have hm := hm.tr (mo_X8_makeOf (qP st_17 h0 2) p1 _ _ _ hc_21)
  obtain ⟨r_25, st_23, hc_24, hf⟩ := bnd_some hf
  have hm := hm.tr (mo_X8_fieldOf h0 p1 p2 _ _ _ hc_24)
  rcases pif_or hf with ⟨c_26, hf⟩ | ⟨c_26, hf⟩
  · obtain ⟨e1, e2⟩ := pr_some hf
    exact e2 ▸ hm
  · rcases pif_or hf with ⟨c_27, hf⟩ | ⟨c_27, hf⟩
    · obtain ⟨e1, e2⟩ := pr_some hf
      exact e2 ▸ hm
    · rcases pif_or hf with ⟨c_28, hf⟩ | ⟨c_28, hf⟩
      · obtain ⟨e1, e2⟩ := pr_some hf
        exact e2 ▸ hm
      · rcases pif_or hf with ⟨c_29, hf⟩ | ⟨c_29, hf⟩
        · obtain ⟨e1, e2⟩ := pr_some hf
          exact e2 ▸ hm
        · rcases pif_or hf with ⟨c_30, hf⟩ | ⟨c_30, hf⟩
          · obtain ⟨a_31, ha_32, hf⟩ := ono_some hf
            obtain ⟨hk_33, hf⟩ := gd_some hf
            obtain ⟨r_36, st_34, hc_35, hf⟩ := bnd_some hf
            have hm := hm.tr (mo_X3_isSound a_31 r_19 r_22 _ _ _ hc_35)
            rcases pif_or hf with ⟨c_37, hf⟩ | ⟨c_37, hf⟩
            · obtain ⟨e1, e2⟩ := pr_some hf
              exact e2 ▸ hm
            · obtain ⟨a_38, ha_39, hf⟩ := ono_some hf
              obtain ⟨hk_40, hf⟩ := gd_some hf
              rcases pif_or hf with ⟨c_41, hf⟩ | ⟨c_41, hf⟩
              · exact hm.tr (mo_X8_get_95 h0 p3 r_25 none st_34 _ _ hf)
              · obtain ⟨a_42, ha_43, hf⟩ := ono_some hf
                obtain ⟨hk_44, hf⟩ := gd_some hf
                obtain ⟨r_47, st_45, hc_46, hf⟩ := bnd_some hf
                have hm := hm.tr (mo_X3_find a_42 r_19 p2 _ _ _ hc_46)
                exact hm.tr (mo_X8_get_95 h0 p3 r_25 r_47 st_45 _ _ hf)
          · obtain ⟨e1, e2⟩ := pr_some hf
            exact e2 ▸ hm
def wq_X8_get : List Cond := .code yX8_get cX8_get 9 (some .long) :: (([.fieldLink RX8 24 "RecordBench" "makes" "[LRecordBench$Make;", .constantLong RX8 184 (-9000000000000000000), .fieldLink RX8 42 "RecordBench" "reader" "LRecordBench$RecordReader;", .methodLink RX8 190 yX2_tells, .instanceMethod yX2_tells, .selects RX2 yX2_tells yX2_tells, .initialized RX2, .methodLink RX8 124 yX0_plainNumber, .instanceMethod yX0_plainNumber, .selects RX0 yX0_plainNumber yX0_plainNumber, .initialized RX0, .methodLink RX8 128 yX8_recordOf, .instanceMethod yX8_recordOf, .selects RX8 yX8_recordOf yX8_recordOf, .initialized RX8, .methodLink RX8 136 yX8_makeOf, .static yX8_makeOf, .methodLink RX8 100 yX8_fieldOf, .instanceMethod yX8_fieldOf, .selects RX8 yX8_fieldOf yX8_fieldOf, .methodLink RX8 144 yX3_isSound, .instanceMethod yX3_isSound, .selects RX3 yX3_isSound yX3_isSound, .initialized RX3, .methodLink RX8 186 yX3_find, .instanceMethod yX3_find, .selects RX3 yX3_find yX3_find, .code yX2_tells cX2_tells 1 (some .long), .fieldLink RX2 15 "RecordBench$Piece" "withLength" "Z", .fieldLink RX2 19 "RecordBench$Piece" "raw" "J", .methodLink RX2 56 yX2_asNumber, .instanceMethod yX2_asNumber, .selects RX2 yX2_asNumber yX2_asNumber, .code yX2_asNumber cX2_asNumber 1 (some .long), .code yX0_plainNumber cX0_plainNumber 1 (some .long), .fieldLink RX0 15 "RecordBench$Field" "kind" "I", .fieldLink RX0 33 "RecordBench$Field" "value" "J", .fieldLink RX0 30 "RecordBench$Field" "text" "Ljava/lang/String;", .methodLink RX0 45 yJ0_length_8abf5, .instanceMethod yJ0_length_8abf5, .selects RJ0 yJ0_length_8abf5 yJ0_length_8abf5, .initialized RJ0, .code yJ0_length_8abf5 cJ0_length_8abf5 1 (some .int), .fieldLink RJ0 9 "java/lang/String" "value" "[B", .methodLink RJ0 335 yJ0_coder_7d493, .instanceMethod yJ0_coder_7d493, .selects RJ0 yJ0_coder_7d493 yJ0_coder_7d493, .code yJ0_coder_7d493 cJ0_coder_7d493 1 (some .byte), .fieldLink RJ0 38 "java/lang/String" "COMPACT_STRINGS" "Z", .fieldLink RJ0 15 "java/lang/String" "coder" "B", .code yX8_recordOf cX8_recordOf 2 (some (.object "RecordBench$Row")), .fieldLink RX8 18 "RecordBench" "records" "[LRecordBench$Row;", .code yX8_makeOf cX8_makeOf 2 (some (.object "RecordBench$Make")), .code yX8_fieldOf cX8_fieldOf 4 (some (.object "RecordBench$Field")), .methodLink RX8 225 yX1_fieldAt, .instanceMethod yX1_fieldAt, .selects RX1 yX1_fieldAt yX1_fieldAt, .initialized RX1, .code yX1_fieldAt cX1_fieldAt 2 (some (.object "RecordBench$Field")), .fieldLink RX1 11 "RecordBench$Make" "fields" "[LRecordBench$Field;", .code yX3_isSound cX3_isSound 3 (some .boolean), .fieldLink RX3 22 "RecordBench$RecordReader" "fault" "I", .fieldLink RX3 26 "RecordBench$RecordReader" "place" "I", .methodLink RX3 29 yX5_size, .instanceMethod yX5_size, .selects RX5 yX5_size yX5_size, .initialized RX5, .methodLink RX3 35 yX3_scan, .instanceMethod yX3_scan, .selects RX3 yX3_scan yX3_scan, .code yX5_size cX5_size 1 (some .int), .fieldLink RX5 21 "RecordBench$Row" "size" "I", .code yX3_scan cX3_scan 13 (some .boolean), .fieldLink RX3 17 "RecordBench$RecordReader" "pieces" "[LRecordBench$Piece;", .methodLink RX3 79 yX3_groupBit, .static yX3_groupBit, .methodLink RX3 43 yX2_look, .instanceMethod yX2_look, .selects RX2 yX2_look yX2_look, .methodLink RX3 50 yX1_knownAt, .instanceMethod yX1_knownAt, .selects RX1 yX1_knownAt yX1_knownAt, .methodLink RX3 56 yX3_faultOf, .static yX3_faultOf, .methodLink RX3 60 yX3_isRec, .static yX3_isRec, .fieldLink RX3 9 "RecordBench$RecordReader" "makes" "[LRecordBench$Make;", .methodLink RX3 39 yX3_refuse, .instanceMethod yX3_refuse, .selects RX3 yX3_refuse yX3_refuse, .code yX3_groupBit cX3_groupBit 1 (some .int), .code yX2_look cX2_look 6 none, .fieldLink RX2 9 "RecordBench$Piece" "number" "I", .fieldLink RX2 23 "RecordBench$Piece" "body" "I", .fieldLink RX2 26 "RecordBench$Piece" "end" "I", .fieldLink RX2 29 "RecordBench$Piece" "fault" "I", .fieldLink RX2 32 "RecordBench$Piece" "pos" "I", .fieldLink RX2 35 "RecordBench$Piece" "broken" "Z", .methodLink RX2 42 yX2_place, .instanceMethod yX2_place, .selects RX2 yX2_place yX2_place, .methodLink RX2 38 yX2_takeVarint, .instanceMethod yX2_takeVarint, .selects RX2 yX2_takeVarint yX2_takeVarint, .code yX2_place cX2_place 6 none, .constantLong RX2 46 (30), .code yX2_takeVarint cX2_takeVarint 7 (some .long), .constantLong RX2 54 (127), .methodLink RX2 48 yX5_byteAt, .instanceMethod yX5_byteAt, .selects RX5 yX5_byteAt yX5_byteAt, .code yX5_byteAt cX5_byteAt 2 (some .int), .fieldLink RX5 15 "RecordBench$Row" "bytes" "[I", .code yX1_knownAt cX1_knownAt 3 (some (.object "RecordBench$Field")), .methodLink RX1 21 yX1_fieldAt, .code yX3_faultOf cX3_faultOf 5 (some .int), .methodLink RX3 92 yX3_fits, .static yX3_fits, .methodLink RX3 88 yX0_hasLength, .instanceMethod yX0_hasLength, .selects RX0 yX0_hasLength yX0_hasLength, .code yX3_fits cX3_fits 3 (some .boolean), .methodLink RX3 96 yX0_isNumber, .instanceMethod yX0_isNumber, .selects RX0 yX0_isNumber yX0_isNumber, .methodLink RX3 110 yX5_isText, .instanceMethod yX5_isText, .selects RX5 yX5_isText yX5_isText, .methodLink RX3 99 yX2_asNumber, .methodLink RX3 103 yX0_holds, .instanceMethod yX0_holds, .selects RX0 yX0_holds yX0_holds, .code yX0_isNumber cX0_isNumber 1 (some .boolean), .code yX5_isText cX5_isText 4 (some .boolean), .methodLink RX5 48 yX5_byteAt, .methodLink RX5 52 yX5_isTextByte, .static yX5_isTextByte, .code yX5_isTextByte cX5_isTextByte 1 (some .boolean), .code yX0_holds cX0_holds 3 (some .boolean), .constantLong RX0 37 (-128), .constantLong RX0 39 (127), .constantLong RX0 41 (-2147483648), .constantLong RX0 43 (2147483647), .code yX0_hasLength cX0_hasLength 1 (some .boolean), .code yX3_isRec cX3_isRec 1 (some .boolean), .code yX3_refuse cX3_refuse 3 (some .boolean), .code yX3_find cX3_find 6 (some (.object "RecordBench$Piece"))] : List Cond) ++ wsX80 ++ wsX00 ++ wsX20 ++ wsJ00 ++ wsX10 ++ wsX30 ++ wsX50)
theorem gs_wq_X8_get_wsX20 : GoodIn wq_X8_get wsX20 := fun w h => ⟨List.mem_cons_of_mem _ (List.mem_append_left _ (List.mem_append_left _ (List.mem_append_left _ (List.mem_append_left _ (List.mem_append_right _ h))))), (gt_wsX20 w h).2⟩
set_option maxRecDepth 20000 in
theorem gq_X8_get_X2_tells_190 : GoodIn wq_X8_get (wsV RX8 190 RX2 yX2_tells wq_X2_tells) := goodIn_app (goodIn_r _ [4, 5, 6, 7] rfl rfl) (goodIn_ca (goodIn_r _ [28, 29, 30, 31, 32, 33, 7, 34] rfl rfl) gs_wq_X8_get_wsX20)
theorem gs_wq_X8_get_wsX00 : GoodIn wq_X8_get wsX00 := fun w h => ⟨List.mem_cons_of_mem _ (List.mem_append_left _ (List.mem_append_left _ (List.mem_append_left _ (List.mem_append_left _ (List.mem_append_left _ (List.mem_append_right _ h)))))), (gt_wsX00 w h).2⟩
theorem gs_wq_X8_get_wsJ00 : GoodIn wq_X8_get wsJ00 := fun w h => ⟨List.mem_cons_of_mem _ (List.mem_append_left _ (List.mem_append_left _ (List.mem_append_left _ (List.mem_append_right _ h)))), (gt_wsJ00 w h).2⟩
set_option maxRecDepth 20000 in
theorem gq_X8_get_X0_plainNumber_124 : GoodIn wq_X8_get (wsV RX8 124 RX0 yX0_plainNumber wq_X0_plainNumber) := goodIn_app (goodIn_r _ [8, 9, 10, 11] rfl rfl) (goodIn_ca (goodIn_ca (goodIn_r _ [35, 36, 37, 38, 39, 40, 41, 42, 43, 44, 45, 46, 47, 48, 49, 50] rfl rfl) gs_wq_X8_get_wsX00) gs_wq_X8_get_wsJ00)
theorem gs_wq_X8_get_wsX80 : GoodIn wq_X8_get wsX80 := fun w h => ⟨List.mem_cons_of_mem _ (List.mem_append_left _ (List.mem_append_left _ (List.mem_append_left _ (List.mem_append_left _ (List.mem_append_left _ (List.mem_append_left _ (List.mem_append_right _ h))))))), (gt_wsX80 w h).2⟩
set_option maxRecDepth 20000 in
theorem gq_X8_get_X8_recordOf_128 : GoodIn wq_X8_get (wsV RX8 128 RX8 yX8_recordOf wq_X8_recordOf) := goodIn_app (goodIn_r _ [12, 13, 14, 15] rfl rfl) (goodIn_ca (goodIn_r _ [51, 52] rfl rfl) gs_wq_X8_get_wsX80)
set_option maxRecDepth 20000 in
theorem gq_X8_get_X8_makeOf_136 : GoodIn wq_X8_get (va_wsS RX8 136 yX8_makeOf wq_X8_makeOf) := goodIn_app (goodIn_r _ [16, 17, 15] rfl rfl) (goodIn_r _ [53] rfl rfl)
theorem gs_wq_X8_get_wsX10 : GoodIn wq_X8_get wsX10 := fun w h => ⟨List.mem_cons_of_mem _ (List.mem_append_left _ (List.mem_append_left _ (List.mem_append_right _ h))), (gt_wsX10 w h).2⟩
set_option maxRecDepth 20000 in
theorem gq_X8_get_X8_fieldOf_100 : GoodIn wq_X8_get (wsV RX8 100 RX8 yX8_fieldOf wq_X8_fieldOf) := goodIn_app (goodIn_r _ [18, 19, 20, 15] rfl rfl) (goodIn_ca (goodIn_ca (goodIn_r _ [54, 1, 16, 17, 15, 55, 56, 57, 58, 53, 59, 60] rfl rfl) gs_wq_X8_get_wsX80) gs_wq_X8_get_wsX10)
theorem gs_wq_X8_get_wsX30 : GoodIn wq_X8_get wsX30 := fun w h => ⟨List.mem_cons_of_mem _ (List.mem_append_left _ (List.mem_append_right _ h)), (gt_wsX30 w h).2⟩
theorem gs_wq_X8_get_wsX50 : GoodIn wq_X8_get wsX50 := fun w h => ⟨List.mem_cons_of_mem _ (List.mem_append_right _ h), (gt_wsX50 w h).2⟩
set_option maxRecDepth 20000 in
theorem gq_X8_get_X3_isSound_144 : GoodIn wq_X8_get (wsV RX8 144 RX3 yX3_isSound wq_X3_isSound) := goodIn_app (goodIn_r _ [21, 22, 23, 24] rfl rfl) (goodIn_ca (goodIn_ca (goodIn_ca (goodIn_ca (goodIn_ca (goodIn_r _ [61, 62, 63, 64, 65, 66, 67, 68, 69, 70, 24, 71, 72, 73, 74, 75, 76, 77, 78, 79, 7, 80, 81, 82, 58, 83, 84, 85, 86, 87, 17, 15, 88, 89, 90, 91, 92, 93, 29, 30, 94, 95, 96, 97, 98, 99, 100, 101, 102, 103, 104, 105, 106, 107, 108, 109, 110, 111, 112, 113, 114, 115, 56, 57, 59, 60, 116, 117, 118, 119, 120, 121, 11, 122, 123, 124, 125, 126, 127, 128, 129, 32, 33, 130, 131, 132, 133, 36, 134, 135, 136, 137, 138, 34, 139, 140, 141, 142, 143, 144, 145, 53, 146] rfl rfl) gs_wq_X8_get_wsX30) gs_wq_X8_get_wsX50) gs_wq_X8_get_wsX20) gs_wq_X8_get_wsX00) gs_wq_X8_get_wsX10)
set_option maxRecDepth 20000 in
theorem gq_X8_get_X3_find_186 : GoodIn wq_X8_get (wsV RX8 186 RX3 yX3_find wq_X3_find) := goodIn_app (goodIn_r _ [25, 26, 27, 24] rfl rfl) (goodIn_ca (goodIn_ca (goodIn_ca (goodIn_r _ [147, 74, 64, 65, 66, 67, 77, 78, 79, 7, 71, 72, 92, 93, 29, 30, 94, 95, 96, 97, 98, 99, 100, 101, 102, 103, 104, 105, 106, 107, 108, 109, 110, 111, 112, 113] rfl rfl) gs_wq_X8_get_wsX30) gs_wq_X8_get_wsX20) gs_wq_X8_get_wsX50)
set_option maxHeartbeats 4000000 in
set_option maxRecDepth 100000 in
theorem c_X8_get (l : Launch) (dC : Nat → ClassId) (dI : Nat → Nat → Nat) (ka ad : Nat → Nat) (ct : Nat → ClassId) (h0 : Nat) (p0 : Int32) (p1 : Int32) (p2 : Int32) (p3 : Int32) (st st' : CS) (r : Int64) (hf : fX8_get h0 p0 p1 p2 p3 st = some (r, st')) (sz : Nat) : Met l yX8_get wq_X8_get ({ frames := 50, cells := 0, slots := 0, locals := 1334 }) (va_Pc [.ref (ad h0), .int p0, .int p1, .int p2, .int p3] (PrC (dC, dI) ct ka ad st sz)) (va_Ql (fun r' (_ : Unit) => r' = r) (fun _ => CB (dC, dI) ct ka ad st' (aC ad st sz)) (aC ad st sz)) 0 0 (aC ad st sz) := by
  refine Met.ofW (cc := cX8_get) (maxL := 9) (ret := (some .long)) (by decide) rfl ?_
  intro p e s m args below meth c s₁ B hml hv
  obtain ⟨rfl, hsz, hw0, hK, hN, hZ, hC, hR, hL, hw1, hw2⟩ := hv
  have hx := B.exec
  have hb := B.bytes
  have hr := B.returns
  have hts := atoms_spec (ws := wq_X8_get) B.pre
  have hown : s.vm.findClass RX8 = some m.cls := findClass_of_methodNamed B.named
  have iRX8 : ∀ w ∈ u_ws RX8 TX8 12, w ∈ wq_X8_get := fun w h => List.mem_cons_of_mem _ (List.mem_append_left _ (List.mem_append_left _ (List.mem_append_left _ (List.mem_append_left _ (List.mem_append_left _ (List.mem_append_left _ (List.mem_append_right _ h)))))))
  have iRX0 : ∀ w ∈ u_ws RX0 TX0 7, w ∈ wq_X8_get := fun w h => List.mem_cons_of_mem _ (List.mem_append_left _ (List.mem_append_left _ (List.mem_append_left _ (List.mem_append_left _ (List.mem_append_left _ (List.mem_append_right _ h))))))
  subst hsz
  have hp : Cp (dC, dI) ka ad ct (aC ad st s.heap.size) s.heap st s.heap [] := ⟨fun i a b => ⟨hw0 i a b, Or.inl ⟨i, a, b, rfl⟩⟩, va_S.rf, hw1, hw2⟩
  generalize hAe : aC ad st s.heap.size = A at hp hZ hC ⊢
  have hA : ∀ q : Nat, s.heap.size ≤ q → A q := fun q h => by rw [← hAe]; exact Or.inr h
  have hl := lv_entry ([.ref (ad h0), .int p0, .int p1, .int p2, .int p3]) (n := 9) (Nat.le_of_ble_eq_true rfl)
  rw [lg_entry_eq]
  generalize (lg_sl ([.ref (ad h0), .int p0, .int p1, .int p2, .int p3]) ++ List.replicate (9 - (lg_sl ([.ref (ad h0), .int p0, .int p1, .int p2, .int p3])).length) Slot.unset).toArray = ls at hl ⊢
  have hl : lv_has ls 9 [(0, .ref (ad h0)), (1, .int p0), (2, .int p1), (3, .int p2), (4, .int p3)] := hl
  refine W_blk (fun (u : Int32 × (Option Nat) × (Option Nat) × CS) H locs ls => match u with | (l4, l7, s0, gs) => fX8_get_95 h0 l4 l7 s0 gs = some (r, st') ∧ Cp (dC, dI) ka ad ct A s.heap gs H locs ∧ lv_has ls 9 [(4, .int l4), (7, va_rf (Option.map ad l7))]) (fun (u : Int32 × (Option Nat) × (Option Nat) × CS) ls => match u with | (l4, l7, s0, gs) => F0 m 95 ls [va_rf (Option.map ad s0)]) ?_ (fun J95 => ?_)
  · intro u H locs ls hu
    obtain ⟨l4, l7, s0, gs⟩ := u
    obtain ⟨hf, hp, hl⟩ := hu
    show W p l e _ s m _ below meth c _ _ _ _ _ (F0 m 95 ls [va_rf (Option.map ad s0)])
    unfold fX8_get_95 at hf
    refine o_astore (i := 8) (lv' := [(8, va_rf (Option.map ad s0)), (4, .int l4), (7, va_rf (Option.map ad l7))]) hx hb dX8_get_95 hl (by decide) (by simp [rf_cat, vc_i, vc_l, vc_r, vc_n]) (fun ls hl => ?_)
    refine lv_iload hx hb dX8_get_97 (lv_at hl 1 rfl) ?_
    refine lv_if_ne (tgt := 113) hx hb dX8_get_99 (by decide) (fun c_1 => ?_) (fun c_1 => ?_)
    · have hf := pif_f c_1 hf
      refine o_aload hx hb dX8_get_113 (lv_at hl 0 rfl) ?_
      refine o_ifnonnull (tgt := 126) hx hb dX8_get_115 (by decide) (fun c_2 => ?_) (fun c_2 => ?_)
      · have hf := pif_f c_2 hf
        refine o_aload hx hb dX8_get_126 (lv_at hl 0 rfl) ?_
        obtain ⟨a_3, ha_4, hf⟩ := ono_some hf
        refine o_at ha_4 ?_
        obtain ⟨hk_5, hf⟩ := gd_some hf
        obtain ⟨r_8, st_6, hc_7, hf⟩ := bnd_some hf
        refine q_cl hp hA (va_runV (As := []) (rest := []) ⟨hx, hb, hml, hown, hts⟩ (c_X2_tells l dC dI ka ad ct a_3 _ _ _ hc_7 _) (cwV 0 hts gq_X8_get_X2_tells_190 rfl rfl rfl (by decide +kernel) ⟨Nat.le_of_ble_eq_true rfl, Nat.le_of_ble_eq_true rfl⟩) ⟨PrC.blind _, q_rv4 hK hp hC hk_5, q_pre hp hK hN hZ hC hR hL hA⟩ rfl rfl hl.1 rfl (lv_room (Nat.le_of_ble_eq_true rfl)) dX8_get_128 ⟨Nat.le_of_ble_eq_true rfl, Nat.le_of_ble_eq_true rfl⟩) (fun H locs hp => ?_)
        have hk_5 : qk st_6 a_3 = 5 := by rw [(mo_X2_tells a_3 _ _ _ hc_7).2.2.1]; exact hk_5
        obtain ⟨e1, e2⟩ := pr_some hf
        exact W.lret (v := r_8) hx hb hr (fun t ht hW => ⟨⟨r_8, (), rfl, e1, Cp.end e2 hp ht⟩, hp.2.1.F ht⟩) hp.2.1.2.2 dX8_get_131
      · have hf := pif_t c_2 hf
        refine o_aload hx hb dX8_get_118 (lv_at hl 2 rfl) ?_
        obtain ⟨a_9, ha_10, hf⟩ := ono_some hf
        refine o_at ha_10 ?_
        obtain ⟨hk_11, hf⟩ := gd_some hf
        obtain ⟨r_14, st_12, hc_13, hf⟩ := bnd_some hf
        refine q_cl hp hA (va_runV (As := []) (rest := []) ⟨hx, hb, hml, hown, hts⟩ (c_X0_plainNumber l dC dI ka ad ct a_9 _ _ _ hc_13 _) (cwV 0 hts gq_X8_get_X0_plainNumber_124 rfl rfl rfl (by decide +kernel) ⟨Nat.le_of_ble_eq_true rfl, Nat.le_of_ble_eq_true rfl⟩) ⟨PrC.blind _, q_rv2 hK hp hC hk_11, q_pre hp hK hN hZ hC hR hL hA⟩ rfl rfl hl.1 rfl (lv_room (Nat.le_of_ble_eq_true rfl)) dX8_get_120 ⟨Nat.le_of_ble_eq_true rfl, Nat.le_of_ble_eq_true rfl⟩) (fun H locs hp => ?_)
        have hk_11 : qk st_12 a_9 = 3 := by rw [(mo_X0_plainNumber a_9 _ _ _ hc_13).2.2.1]; exact hk_11
        refine lv_goto (tgt := 131) hx hb dX8_get_123 (by decide) ?_
        obtain ⟨e1, e2⟩ := pr_some hf
        exact W.lret (v := r_14) hx hb hr (fun t ht hW => ⟨⟨r_14, (), rfl, e1, Cp.end e2 hp ht⟩, hp.2.1.F ht⟩) hp.2.1.2.2 dX8_get_131
    · have hf := pif_t c_1 hf
      refine o_aload hx hb dX8_get_102 (lv_at hl 0 rfl) ?_
      refine o_ifnonnull (tgt := 111) hx hb dX8_get_104 (by decide) (fun c_15 => ?_) (fun c_15 => ?_)
      · have hf := pif_f c_15 hf
        refine lv_lconst (v := 1) hx hb dX8_get_111 (by decide) ?_
        obtain ⟨e1, e2⟩ := pr_some hf
        exact W.lret (v := 1) hx hb hr (fun t ht hW => ⟨⟨1, (), rfl, e1, Cp.end e2 hp ht⟩, hp.2.1.F ht⟩) hp.2.1.2.2 dX8_get_112
      · have hf := pif_t c_15 hf
        refine lv_lconst (v := 0) hx hb dX8_get_107 (by decide) ?_
        refine lv_goto (tgt := 112) hx hb dX8_get_108 (by decide) ?_
        obtain ⟨e1, e2⟩ := pr_some hf
        exact W.lret (v := 0) hx hb hr (fun t ht hW => ⟨⟨0, (), rfl, e1, Cp.end e2 hp ht⟩, hp.2.1.F ht⟩) hp.2.1.2.2 dX8_get_112
  unfold fX8_get at hf
  refine lv_aload_n hx hb dX8_get_0 rfl (lv_at hl 0 rfl) ?_
  refine lv_iload_n hx hb dX8_get_1 rfl (lv_at hl 1 rfl) ?_
  obtain ⟨hk_16, hf⟩ := gd_some hf
  obtain ⟨r_19, st_17, hc_18, hf⟩ := bnd_some hf
  refine q_cq hp hA (va_runV (As := [.int p0]) (rest := []) ⟨hx, hb, hml, hown, hts⟩ (c_X8_recordOf l dC dI ka ad ct h0 p0 _ _ _ hc_18 _) (cwV 1 hts gq_X8_get_X8_recordOf_128 rfl rfl rfl (by decide +kernel) ⟨Nat.le_of_ble_eq_true rfl, Nat.le_of_ble_eq_true rfl⟩) ⟨PrC.blind _, q_rv10 hK hp hC hk_16, q_pre hp hK hN hZ hC hR hL hA⟩ rfl rfl hl.1 rfl (lv_room (Nat.le_of_ble_eq_true rfl)) dX8_get_2 ⟨Nat.le_of_ble_eq_true rfl, Nat.le_of_ble_eq_true rfl⟩) (fun H locs hp => ?_)
  have hk_16 : qk st_17 h0 = 11 := by rw [(mo_X8_recordOf h0 p0 _ _ _ hc_18).2.2.1]; exact hk_16
  refine o_astore (i := 5) (lv' := [(5, va_rf (Option.map ad r_19)), (0, .ref (ad h0)), (1, .int p0), (2, .int p1), (3, .int p2), (4, .int p3)]) hx hb dX8_get_5 hl (by decide) rfl (fun ls hl => ?_)
  refine lv_aload_n hx hb dX8_get_7 rfl (lv_at hl 1 rfl) ?_
  refine q_gp (ci := 10) (C := RX8) (T := TX8) (N := 12) (k := 2) hx hb hts iRX8 hown hK hp hk_16 (by decide) rfl rfl (by decide) rfl (Or.inl (hts (.fieldLink RX8 24 "RecordBench" "makes" "[LRecordBench$Make;") (by decide +kernel))) (fun _ h9 => h9) dX8_get_8 ?_
  refine lv_iload_n hx hb dX8_get_11 rfl (lv_at hl 3 rfl) ?_
  obtain ⟨r_22, st_20, hc_21, hf⟩ := bnd_some hf
  refine q_cq hp hA (va_runS (As := [va_rf (Option.map ad (qP st_17 h0 2)), .int p1]) (rest := []) ⟨hx, hb, hml, hown, hts⟩ (c_X8_makeOf l dC dI ka ad ct (qP st_17 h0 2) p1 _ _ _ hc_21 _) (va_cwS 2 hts gq_X8_get_X8_makeOf_136 rfl rfl rfl (by decide +kernel) ⟨Nat.le_of_ble_eq_true rfl, Nat.le_of_ble_eq_true rfl⟩) ⟨PrC.blind _, q_pre hp hK hN hZ hC hR hL hA⟩ rfl rfl hl.1 rfl (lv_room (Nat.le_of_ble_eq_true rfl)) dX8_get_12 ⟨Nat.le_of_ble_eq_true rfl, Nat.le_of_ble_eq_true rfl⟩) (fun H locs hp => ?_)
  have hk_16 : qk st_20 h0 = 11 := by rw [(mo_X8_makeOf (qP st_17 h0 2) p1 _ _ _ hc_21).2.2.1]; exact hk_16
  refine o_astore (i := 6) (lv' := [(6, va_rf (Option.map ad r_22)), (5, va_rf (Option.map ad r_19)), (0, .ref (ad h0)), (1, .int p0), (2, .int p1), (3, .int p2), (4, .int p3)]) hx hb dX8_get_15 hl (by decide) (by simp [rf_cat, vc_i, vc_l, vc_r, vc_n]) (fun ls hl => ?_)
  refine lv_aload_n hx hb dX8_get_17 rfl (lv_at hl 2 rfl) ?_
  refine lv_iload_n hx hb dX8_get_18 rfl (lv_at hl 4 rfl) ?_
  refine lv_iload_n hx hb dX8_get_19 rfl (lv_at hl 5 rfl) ?_
  obtain ⟨r_25, st_23, hc_24, hf⟩ := bnd_some hf
  refine q_cq hp hA (va_runV (As := [.int p1, .int p2]) (rest := []) ⟨hx, hb, hml, hown, hts⟩ (c_X8_fieldOf l dC dI ka ad ct h0 p1 p2 _ _ _ hc_24 _) (cwV 2 hts gq_X8_get_X8_fieldOf_100 rfl rfl rfl (by decide +kernel) ⟨Nat.le_of_ble_eq_true rfl, Nat.le_of_ble_eq_true rfl⟩) ⟨PrC.blind _, q_rv10 hK hp hC hk_16, q_pre hp hK hN hZ hC hR hL hA⟩ rfl rfl hl.1 rfl (lv_room (Nat.le_of_ble_eq_true rfl)) dX8_get_20 ⟨Nat.le_of_ble_eq_true rfl, Nat.le_of_ble_eq_true rfl⟩) (fun H locs hp => ?_)
  have hk_16 : qk st_23 h0 = 11 := by rw [(mo_X8_fieldOf h0 p1 p2 _ _ _ hc_24).2.2.1]; exact hk_16
  refine o_astore (i := 7) (lv' := [(7, va_rf (Option.map ad r_25)), (6, va_rf (Option.map ad r_22)), (5, va_rf (Option.map ad r_19)), (0, .ref (ad h0)), (1, .int p0), (2, .int p1), (3, .int p2), (4, .int p3)]) hx hb dX8_get_23 hl (by decide) (by simp [rf_cat, vc_i, vc_l, vc_r, vc_n]) (fun ls hl => ?_)
  refine o_aload hx hb dX8_get_25 (lv_at hl 2 rfl) ?_
  refine o_ifnull (tgt := 51) hx hb dX8_get_27 (by decide) (fun c_26 => ?_) (fun c_26 => ?_)
  · have hf := pif_t c_26 hf
    refine lv_ldc2 hx hb hown (hts (.constantLong RX8 184 (-9000000000000000000)) (by decide +kernel)) dX8_get_51 ?_
    obtain ⟨e1, e2⟩ := pr_some hf
    exact W.lret (v := (-9000000000000000000)) hx hb hr (fun t ht hW => ⟨⟨(-9000000000000000000), (), rfl, e1, Cp.end e2 hp ht⟩, hp.2.1.F ht⟩) hp.2.1.2.2 dX8_get_54
  · have hf := pif_f c_26 hf
    refine o_aload hx hb dX8_get_30 (lv_at hl 1 rfl) ?_
    refine o_ifnull (tgt := 51) hx hb dX8_get_32 (by decide) (fun c_27 => ?_) (fun c_27 => ?_)
    · have hf := pif_t c_27 hf
      refine lv_ldc2 hx hb hown (hts (.constantLong RX8 184 (-9000000000000000000)) (by decide +kernel)) dX8_get_51 ?_
      obtain ⟨e1, e2⟩ := pr_some hf
      exact W.lret (v := (-9000000000000000000)) hx hb hr (fun t ht hW => ⟨⟨(-9000000000000000000), (), rfl, e1, Cp.end e2 hp ht⟩, hp.2.1.F ht⟩) hp.2.1.2.2 dX8_get_54
    · have hf := pif_f c_27 hf
      refine o_aload hx hb dX8_get_35 (lv_at hl 0 rfl) ?_
      refine o_ifnull (tgt := 51) hx hb dX8_get_37 (by decide) (fun c_28 => ?_) (fun c_28 => ?_)
      · have hf := pif_t c_28 hf
        refine lv_ldc2 hx hb hown (hts (.constantLong RX8 184 (-9000000000000000000)) (by decide +kernel)) dX8_get_51 ?_
        obtain ⟨e1, e2⟩ := pr_some hf
        exact W.lret (v := (-9000000000000000000)) hx hb hr (fun t ht hW => ⟨⟨(-9000000000000000000), (), rfl, e1, Cp.end e2 hp ht⟩, hp.2.1.F ht⟩) hp.2.1.2.2 dX8_get_54
      · have hf := pif_f c_28 hf
        refine lv_iload hx hb dX8_get_40 (lv_at hl 7 rfl) ?_
        refine lv_if_lt (tgt := 51) hx hb dX8_get_42 (by decide) (fun c_29 => ?_) (fun c_29 => ?_)
        · have hf := pif_t c_29 hf
          refine lv_ldc2 hx hb hown (hts (.constantLong RX8 184 (-9000000000000000000)) (by decide +kernel)) dX8_get_51 ?_
          obtain ⟨e1, e2⟩ := pr_some hf
          exact W.lret (v := (-9000000000000000000)) hx hb hr (fun t ht hW => ⟨⟨(-9000000000000000000), (), rfl, e1, Cp.end e2 hp ht⟩, hp.2.1.F ht⟩) hp.2.1.2.2 dX8_get_54
        · have hf := pif_f c_29 hf
          refine lv_iload hx hb dX8_get_45 (lv_at hl 7 rfl) ?_
          refine lv_iconst (v := 1) hx hb dX8_get_47 (by decide) ?_
          refine lv_icmp_le (tgt := 55) hx hb dX8_get_48 (by decide) (fun c_30 => ?_) (fun c_30 => ?_)
          · have hf := pif_t c_30 hf
            refine lv_aload_n hx hb dX8_get_55 rfl (lv_at hl 3 rfl) ?_
            refine q_gp (ci := 10) (C := RX8) (T := TX8) (N := 12) (k := 4) hx hb hts iRX8 hown hK hp hk_16 (by decide) rfl rfl (by decide) rfl (Or.inl (hts (.fieldLink RX8 42 "RecordBench" "reader" "LRecordBench$RecordReader;") (by decide +kernel))) (fun _ h9 => h9) dX8_get_56 ?_
            refine o_aload hx hb dX8_get_59 (lv_at hl 2 rfl) ?_
            refine o_aload hx hb dX8_get_61 (lv_at hl 1 rfl) ?_
            obtain ⟨a_31, ha_32, hf⟩ := ono_some hf
            refine o_at2 ha_32 ?_
            obtain ⟨hk_33, hf⟩ := gd_some hf
            obtain ⟨r_36, st_34, hc_35, hf⟩ := bnd_some hf
            refine q_ci hp hA (va_runV (As := [va_rf (Option.map ad r_19), va_rf (Option.map ad r_22)]) (rest := []) ⟨hx, hb, hml, hown, hts⟩ (c_X3_isSound l dC dI ka ad ct a_31 r_19 r_22 _ _ _ hc_35 _) (cwV 2 hts gq_X8_get_X3_isSound_144 rfl rfl rfl (by decide +kernel) ⟨Nat.le_of_ble_eq_true rfl, Nat.le_of_ble_eq_true rfl⟩) ⟨PrC.blind _, q_rv5 hK hp hC hk_33, q_pre hp hK hN hZ hC hR hL hA⟩ rfl rfl hl.1 rfl (lv_room (Nat.le_of_ble_eq_true rfl)) dX8_get_63 ⟨Nat.le_of_ble_eq_true rfl, Nat.le_of_ble_eq_true rfl⟩) (fun H locs hp => ?_)
            have hk_16 : qk st_34 h0 = 11 := by rw [(mo_X3_isSound a_31 r_19 r_22 _ _ _ hc_35).2.2.1]; exact hk_16
            have hk_33 : qk st_34 a_31 = 6 := by rw [(mo_X3_isSound a_31 r_19 r_22 _ _ _ hc_35).2.2.1]; exact hk_33
            refine lv_if_ne (tgt := 73) hx hb dX8_get_66 (by decide) (fun c_37 => ?_) (fun c_37 => ?_)
            · have hf := pif_f c_37 hf
              refine o_aload hx hb dX8_get_73 (lv_at hl 0 rfl) ?_
              obtain ⟨a_38, ha_39, hf⟩ := ono_some hf
              refine o_at ha_39 ?_
              obtain ⟨hk_40, hf⟩ := gd_some hf
              refine q_gi (ci := 2) (C := RX0) (T := TX0) (N := 7) (k := 1) hx hb hts iRX0 hown hK hp hk_40 (by decide) rfl rfl (by decide) rfl (Or.inr ⟨_, va_Nw.use rfl (hN.1 (.fieldLinkNest RX8 104 "RecordBench$Field" "kind" "I" "RecordBench") (by decide +kernel))⟩) (fun _ h9 => h9) dX8_get_75 ?_
              refine lv_if_ne (tgt := 85) hx hb dX8_get_78 (by decide) (fun c_41 => ?_) (fun c_41 => ?_)
              · have hf := pif_f c_41 hf
                refine lv_aload_n hx hb dX8_get_85 rfl (lv_at hl 3 rfl) ?_
                refine q_gp (ci := 10) (C := RX8) (T := TX8) (N := 12) (k := 4) hx hb hts iRX8 hown hK hp hk_16 (by decide) rfl rfl (by decide) rfl (Or.inl (hts (.fieldLink RX8 42 "RecordBench" "reader" "LRecordBench$RecordReader;") (by decide +kernel))) (fun _ h9 => h9) dX8_get_86 ?_
                refine o_aload hx hb dX8_get_89 (lv_at hl 2 rfl) ?_
                refine lv_iload_n hx hb dX8_get_91 rfl (lv_at hl 6 rfl) ?_
                obtain ⟨a_42, ha_43, hf⟩ := ono_some hf
                refine o_at2 ha_43 ?_
                obtain ⟨hk_44, hf⟩ := gd_some hf
                obtain ⟨r_47, st_45, hc_46, hf⟩ := bnd_some hf
                refine q_cq hp hA (va_runV (As := [va_rf (Option.map ad r_19), .int p2]) (rest := []) ⟨hx, hb, hml, hown, hts⟩ (c_X3_find l dC dI ka ad ct a_42 r_19 p2 _ _ _ hc_46 _) (cwV 2 hts gq_X8_get_X3_find_186 rfl rfl rfl (by decide +kernel) ⟨Nat.le_of_ble_eq_true rfl, Nat.le_of_ble_eq_true rfl⟩) ⟨PrC.blind _, q_rv5 hK hp hC hk_44, q_pre hp hK hN hZ hC hR hL hA⟩ rfl rfl hl.1 rfl (lv_room (Nat.le_of_ble_eq_true rfl)) dX8_get_92 ⟨Nat.le_of_ble_eq_true rfl, Nat.le_of_ble_eq_true rfl⟩) (fun H locs hp => ?_)
                have hk_16 : qk st_45 h0 = 11 := by rw [(mo_X3_find a_42 r_19 p2 _ _ _ hc_46).2.2.1]; exact hk_16
                have hk_33 : qk st_45 a_31 = 6 := by rw [(mo_X3_find a_42 r_19 p2 _ _ _ hc_46).2.2.1]; exact hk_33
                have hk_40 : qk st_45 a_38 = 3 := by rw [(mo_X3_find a_42 r_19 p2 _ _ _ hc_46).2.2.1]; exact hk_40
                have hk_44 : qk st_45 a_42 = 6 := by rw [(mo_X3_find a_42 r_19 p2 _ _ _ hc_46).2.2.1]; exact hk_44
                exact J95 (p3, r_25, r_47, st_45) _ _ _ ⟨hf, hp, (lv_sub hl [7, 0] rfl)⟩
              · have hf := pif_t c_41 hf
                refine lv_null hx hb dX8_get_81 ?_
                refine lv_goto (tgt := 95) hx hb dX8_get_82 (by decide) ?_
                exact J95 (p3, r_25, none, st_34) _ _ _ ⟨hf, hp, (lv_sub hl [7, 0] rfl)⟩
            · have hf := pif_t c_37 hf
              refine lv_ldc2 hx hb hown (hts (.constantLong RX8 184 (-9000000000000000000)) (by decide +kernel)) dX8_get_69 ?_
              obtain ⟨e1, e2⟩ := pr_some hf
              exact W.lret (v := (-9000000000000000000)) hx hb hr (fun t ht hW => ⟨⟨(-9000000000000000000), (), rfl, e1, Cp.end e2 hp ht⟩, hp.2.1.F ht⟩) hp.2.1.2.2 dX8_get_72
          · have hf := pif_f c_30 hf
            refine lv_ldc2 hx hb hown (hts (.constantLong RX8 184 (-9000000000000000000)) (by decide +kernel)) dX8_get_51 ?_
            obtain ⟨e1, e2⟩ := pr_some hf
            exact W.lret (v := (-9000000000000000000)) hx hb hr (fun t ht hW => ⟨⟨(-9000000000000000000), (), rfl, e1, Cp.end e2 hp ht⟩, hp.2.1.F ht⟩) hp.2.1.2.2 dX8_get_54
noncomputable def fX8_kept (h0 : Nat) (p0 : Int32) (p1 : Int32) (st : CS) : Option (Int32 × CS) := gd (qk st h0 = 11) (bnd (fX8_recordOf h0 p0 st) (fun r_4 st_2 => bnd (fX8_makeOf (qP st_2 h0 2) p1 st_2) (fun r_7 st_5 => pif (r_4 = none) (some (((-1) : Int32), st_5)) (pif (r_7 = none) (some (((-1) : Int32), st_5)) (ono (qP st_5 h0 4) (fun a_10 => gd (qk st_5 a_10 = 6) (bnd (fX3_isSound a_10 r_4 r_7 st_5) (fun r_15 st_13 => pif (r_15 = 0) (some (((-1) : Int32), st_13)) (ono (qP st_13 h0 4) (fun a_17 => gd (qk st_13 a_17 = 6) (bnd (fX3_countPieces a_17 r_4 r_7 0 st_13) (fun r_22 st_20 => some (r_22, st_20)))))))))))))
set_option maxHeartbeats 1000000 in
theorem mo_X8_kept (h0 : Nat) (p0 : Int32) (p1 : Int32) (st : CS) (r : Int32) (st' : CS) (hf : fX8_kept h0 p0 p1 st = some (r, st')) : Ke st st' := by
  unfold fX8_kept at hf
  have hm : Ke st st := Ke.rf
  obtain ⟨hk_1, hf⟩ := gd_some hf
  obtain ⟨r_4, st_2, hc_3, hf⟩ := bnd_some hf
  have hm := hm.tr (mo_X8_recordOf h0 p0 _ _ _ hc_3)
  obtain ⟨r_7, st_5, hc_6, hf⟩ := bnd_some hf
  have hm := hm.tr (mo_X8_makeOf (qP st_2 h0 2) p1 _ _ _ hc_6)
  rcases pif_or hf with ⟨c_8, hf⟩ | ⟨c_8, hf⟩
  · obtain ⟨e1, e2⟩ := pr_some hf
    exact e2 ▸ hm
  · rcases pif_or hf with ⟨c_9, hf⟩ | ⟨c_9, hf⟩
    · obtain ⟨e1, e2⟩ := pr_some hf
      exact e2 ▸ hm
    · obtain ⟨a_10, ha_11, hf⟩ := ono_some hf
      obtain ⟨hk_12, hf⟩ := gd_some hf
      obtain ⟨r_15, st_13, hc_14, hf⟩ := bnd_some hf
      have hm := hm.tr (mo_X3_isSound a_10 r_4 r_7 _ _ _ hc_14)
      rcases pif_or hf with ⟨c_16, hf⟩ | ⟨c_16, hf⟩
      · obtain ⟨e1, e2⟩ := pr_some hf
        exact e2 ▸ hm
      · obtain ⟨a_17, ha_18, hf⟩ := ono_some hf
        obtain ⟨hk_19, hf⟩ := gd_some hf
        obtain ⟨r_22, st_20, hc_21, hf⟩ := bnd_some hf
        have hm := hm.tr (mo_X3_countPieces a_17 r_4 r_7 0 _ _ _ hc_21)
        obtain ⟨e1, e2⟩ := pr_some hf
        exact e2 ▸ hm
def wq_X8_kept : List Cond := .code yX8_kept cX8_kept 5 (some .int) :: (([.fieldLink RX8 24 "RecordBench" "makes" "[LRecordBench$Make;", .fieldLink RX8 42 "RecordBench" "reader" "LRecordBench$RecordReader;", .methodLink RX8 128 yX8_recordOf, .instanceMethod yX8_recordOf, .selects RX8 yX8_recordOf yX8_recordOf, .initialized RX8, .methodLink RX8 136 yX8_makeOf, .static yX8_makeOf, .methodLink RX8 144 yX3_isSound, .instanceMethod yX3_isSound, .selects RX3 yX3_isSound yX3_isSound, .initialized RX3, .methodLink RX8 180 yX3_countPieces, .instanceMethod yX3_countPieces, .selects RX3 yX3_countPieces yX3_countPieces, .code yX8_recordOf cX8_recordOf 2 (some (.object "RecordBench$Row")), .fieldLink RX8 18 "RecordBench" "records" "[LRecordBench$Row;", .code yX8_makeOf cX8_makeOf 2 (some (.object "RecordBench$Make")), .code yX3_isSound cX3_isSound 3 (some .boolean), .fieldLink RX3 22 "RecordBench$RecordReader" "fault" "I", .fieldLink RX3 26 "RecordBench$RecordReader" "place" "I", .methodLink RX3 29 yX5_size, .instanceMethod yX5_size, .selects RX5 yX5_size yX5_size, .initialized RX5, .methodLink RX3 35 yX3_scan, .instanceMethod yX3_scan, .selects RX3 yX3_scan yX3_scan, .code yX5_size cX5_size 1 (some .int), .fieldLink RX5 21 "RecordBench$Row" "size" "I", .code yX3_scan cX3_scan 13 (some .boolean), .fieldLink RX3 17 "RecordBench$RecordReader" "pieces" "[LRecordBench$Piece;", .methodLink RX3 79 yX3_groupBit, .static yX3_groupBit, .methodLink RX3 43 yX2_look, .instanceMethod yX2_look, .selects RX2 yX2_look yX2_look, .initialized RX2, .methodLink RX3 50 yX1_knownAt, .instanceMethod yX1_knownAt, .selects RX1 yX1_knownAt yX1_knownAt, .initialized RX1, .methodLink RX3 56 yX3_faultOf, .static yX3_faultOf, .methodLink RX3 60 yX3_isRec, .static yX3_isRec, .fieldLink RX3 9 "RecordBench$RecordReader" "makes" "[LRecordBench$Make;", .methodLink RX3 39 yX3_refuse, .instanceMethod yX3_refuse, .selects RX3 yX3_refuse yX3_refuse, .code yX3_groupBit cX3_groupBit 1 (some .int), .code yX2_look cX2_look 6 none, .fieldLink RX2 9 "RecordBench$Piece" "number" "I", .fieldLink RX2 15 "RecordBench$Piece" "withLength" "Z", .fieldLink RX2 19 "RecordBench$Piece" "raw" "J", .fieldLink RX2 23 "RecordBench$Piece" "body" "I", .fieldLink RX2 26 "RecordBench$Piece" "end" "I", .fieldLink RX2 29 "RecordBench$Piece" "fault" "I", .fieldLink RX2 32 "RecordBench$Piece" "pos" "I", .fieldLink RX2 35 "RecordBench$Piece" "broken" "Z", .methodLink RX2 42 yX2_place, .instanceMethod yX2_place, .selects RX2 yX2_place yX2_place, .methodLink RX2 38 yX2_takeVarint, .instanceMethod yX2_takeVarint, .selects RX2 yX2_takeVarint yX2_takeVarint, .code yX2_place cX2_place 6 none, .constantLong RX2 46 (30), .code yX2_takeVarint cX2_takeVarint 7 (some .long), .constantLong RX2 54 (127), .methodLink RX2 48 yX5_byteAt, .instanceMethod yX5_byteAt, .selects RX5 yX5_byteAt yX5_byteAt, .code yX5_byteAt cX5_byteAt 2 (some .int), .fieldLink RX5 15 "RecordBench$Row" "bytes" "[I", .code yX1_knownAt cX1_knownAt 3 (some (.object "RecordBench$Field")), .methodLink RX1 21 yX1_fieldAt, .instanceMethod yX1_fieldAt, .selects RX1 yX1_fieldAt yX1_fieldAt, .code yX1_fieldAt cX1_fieldAt 2 (some (.object "RecordBench$Field")), .fieldLink RX1 11 "RecordBench$Make" "fields" "[LRecordBench$Field;", .code yX3_faultOf cX3_faultOf 5 (some .int), .methodLink RX3 92 yX3_fits, .static yX3_fits, .methodLink RX3 88 yX0_hasLength, .instanceMethod yX0_hasLength, .selects RX0 yX0_hasLength yX0_hasLength, .initialized RX0, .code yX3_fits cX3_fits 3 (some .boolean), .methodLink RX3 96 yX0_isNumber, .instanceMethod yX0_isNumber, .selects RX0 yX0_isNumber yX0_isNumber, .methodLink RX3 110 yX5_isText, .instanceMethod yX5_isText, .selects RX5 yX5_isText yX5_isText, .methodLink RX3 99 yX2_asNumber, .instanceMethod yX2_asNumber, .selects RX2 yX2_asNumber yX2_asNumber, .methodLink RX3 103 yX0_holds, .instanceMethod yX0_holds, .selects RX0 yX0_holds yX0_holds, .code yX0_isNumber cX0_isNumber 1 (some .boolean), .fieldLink RX0 15 "RecordBench$Field" "kind" "I", .code yX5_isText cX5_isText 4 (some .boolean), .methodLink RX5 48 yX5_byteAt, .methodLink RX5 52 yX5_isTextByte, .static yX5_isTextByte, .code yX5_isTextByte cX5_isTextByte 1 (some .boolean), .code yX2_asNumber cX2_asNumber 1 (some .long), .code yX0_holds cX0_holds 3 (some .boolean), .constantLong RX0 37 (-128), .constantLong RX0 39 (127), .constantLong RX0 41 (-2147483648), .constantLong RX0 43 (2147483647), .code yX0_hasLength cX0_hasLength 1 (some .boolean), .code yX3_isRec cX3_isRec 1 (some .boolean), .code yX3_refuse cX3_refuse 3 (some .boolean), .code yX3_countPieces cX3_countPieces 8 (some .int)] : List Cond) ++ wsX80 ++ wsX30 ++ wsX50 ++ wsX20 ++ wsX00 ++ wsX10)
theorem gs_wq_X8_kept_wsX80 : GoodIn wq_X8_kept wsX80 := fun w h => ⟨List.mem_cons_of_mem _ (List.mem_append_left _ (List.mem_append_left _ (List.mem_append_left _ (List.mem_append_left _ (List.mem_append_left _ (List.mem_append_right _ h)))))), (gt_wsX80 w h).2⟩
set_option maxRecDepth 20000 in
theorem gq_X8_kept_X8_recordOf_128 : GoodIn wq_X8_kept (wsV RX8 128 RX8 yX8_recordOf wq_X8_recordOf) := goodIn_app (goodIn_r _ [3, 4, 5, 6] rfl rfl) (goodIn_ca (goodIn_r _ [16, 17] rfl rfl) gs_wq_X8_kept_wsX80)
set_option maxRecDepth 20000 in
theorem gq_X8_kept_X8_makeOf_136 : GoodIn wq_X8_kept (va_wsS RX8 136 yX8_makeOf wq_X8_makeOf) := goodIn_app (goodIn_r _ [7, 8, 6] rfl rfl) (goodIn_r _ [18] rfl rfl)
theorem gs_wq_X8_kept_wsX30 : GoodIn wq_X8_kept wsX30 := fun w h => ⟨List.mem_cons_of_mem _ (List.mem_append_left _ (List.mem_append_left _ (List.mem_append_left _ (List.mem_append_left _ (List.mem_append_right _ h))))), (gt_wsX30 w h).2⟩
theorem gs_wq_X8_kept_wsX50 : GoodIn wq_X8_kept wsX50 := fun w h => ⟨List.mem_cons_of_mem _ (List.mem_append_left _ (List.mem_append_left _ (List.mem_append_left _ (List.mem_append_right _ h)))), (gt_wsX50 w h).2⟩
theorem gs_wq_X8_kept_wsX20 : GoodIn wq_X8_kept wsX20 := fun w h => ⟨List.mem_cons_of_mem _ (List.mem_append_left _ (List.mem_append_left _ (List.mem_append_right _ h))), (gt_wsX20 w h).2⟩
theorem gs_wq_X8_kept_wsX00 : GoodIn wq_X8_kept wsX00 := fun w h => ⟨List.mem_cons_of_mem _ (List.mem_append_left _ (List.mem_append_right _ h)), (gt_wsX00 w h).2⟩
theorem gs_wq_X8_kept_wsX10 : GoodIn wq_X8_kept wsX10 := fun w h => ⟨List.mem_cons_of_mem _ (List.mem_append_right _ h), (gt_wsX10 w h).2⟩
set_option maxRecDepth 20000 in
theorem gq_X8_kept_X3_isSound_144 : GoodIn wq_X8_kept (wsV RX8 144 RX3 yX3_isSound wq_X3_isSound) := goodIn_app (goodIn_r _ [9, 10, 11, 12] rfl rfl) (goodIn_ca (goodIn_ca (goodIn_ca (goodIn_ca (goodIn_ca (goodIn_r _ [19, 20, 21, 22, 23, 24, 25, 26, 27, 28, 12, 29, 30, 31, 32, 33, 34, 35, 36, 37, 38, 39, 40, 41, 42, 43, 44, 45, 46, 47, 8, 6, 48, 49, 50, 51, 52, 53, 54, 55, 56, 57, 58, 59, 60, 61, 62, 63, 64, 65, 66, 67, 68, 69, 70, 71, 72, 73, 74, 75, 76, 77, 78, 79, 80, 81, 82, 83, 84, 85, 86, 87, 88, 89, 90, 91, 92, 93, 94, 95, 96, 97, 98, 99, 100, 101, 102, 103, 104, 105, 106, 107, 108, 109, 110, 111, 112, 113, 114, 115, 116, 18, 117] rfl rfl) gs_wq_X8_kept_wsX30) gs_wq_X8_kept_wsX50) gs_wq_X8_kept_wsX20) gs_wq_X8_kept_wsX00) gs_wq_X8_kept_wsX10)
set_option maxRecDepth 20000 in
theorem gq_X8_kept_X3_countPieces_180 : GoodIn wq_X8_kept (wsV RX8 180 RX3 yX3_countPieces wq_X3_countPieces) := goodIn_app (goodIn_r _ [13, 14, 15, 12] rfl rfl) (goodIn_ca (goodIn_ca (goodIn_ca (goodIn_ca (goodIn_ca (goodIn_r _ [118, 32, 22, 23, 24, 25, 35, 36, 37, 38, 39, 40, 41, 42, 29, 30, 52, 53, 54, 55, 56, 57, 58, 59, 60, 61, 62, 63, 64, 65, 66, 67, 68, 69, 70, 71, 72, 73, 74, 75, 76, 77, 78, 79, 80, 81] rfl rfl) gs_wq_X8_kept_wsX30) gs_wq_X8_kept_wsX20) gs_wq_X8_kept_wsX50) gs_wq_X8_kept_wsX00) gs_wq_X8_kept_wsX10)
set_option maxHeartbeats 4000000 in
set_option maxRecDepth 100000 in
theorem c_X8_kept (l : Launch) (dC : Nat → ClassId) (dI : Nat → Nat → Nat) (ka ad : Nat → Nat) (ct : Nat → ClassId) (h0 : Nat) (p0 : Int32) (p1 : Int32) (st st' : CS) (r : Int32) (hf : fX8_kept h0 p0 p1 st = some (r, st')) (sz : Nat) : Met l yX8_kept wq_X8_kept ({ frames := 50, cells := 0, slots := 0, locals := 1334 }) (va_Pc [.ref (ad h0), .int p0, .int p1] (PrC (dC, dI) ct ka ad st sz)) (va_Qi (fun r' (_ : Unit) => r' = r) (fun _ => CB (dC, dI) ct ka ad st' (aC ad st sz)) (aC ad st sz)) 0 0 (aC ad st sz) := by
  refine Met.ofW (cc := cX8_kept) (maxL := 5) (ret := (some .int)) (by decide) rfl ?_
  intro p e s m args below meth c s₁ B hml hv
  obtain ⟨rfl, hsz, hw0, hK, hN, hZ, hC, hR, hL, hw1, hw2⟩ := hv
  have hx := B.exec
  have hb := B.bytes
  have hr := B.returns
  have hts := atoms_spec (ws := wq_X8_kept) B.pre
  have hown : s.vm.findClass RX8 = some m.cls := findClass_of_methodNamed B.named
  have iRX8 : ∀ w ∈ u_ws RX8 TX8 12, w ∈ wq_X8_kept := fun w h => List.mem_cons_of_mem _ (List.mem_append_left _ (List.mem_append_left _ (List.mem_append_left _ (List.mem_append_left _ (List.mem_append_left _ (List.mem_append_right _ h))))))
  subst hsz
  have hp : Cp (dC, dI) ka ad ct (aC ad st s.heap.size) s.heap st s.heap [] := ⟨fun i a b => ⟨hw0 i a b, Or.inl ⟨i, a, b, rfl⟩⟩, va_S.rf, hw1, hw2⟩
  generalize hAe : aC ad st s.heap.size = A at hp hZ hC ⊢
  have hA : ∀ q : Nat, s.heap.size ≤ q → A q := fun q h => by rw [← hAe]; exact Or.inr h
  have hl := lv_entry ([.ref (ad h0), .int p0, .int p1]) (n := 5) (Nat.le_of_ble_eq_true rfl)
  rw [lg_entry_eq]
  generalize (lg_sl ([.ref (ad h0), .int p0, .int p1]) ++ List.replicate (5 - (lg_sl ([.ref (ad h0), .int p0, .int p1])).length) Slot.unset).toArray = ls at hl ⊢
  have hl : lv_has ls 5 [(0, .ref (ad h0)), (1, .int p0), (2, .int p1)] := hl
  unfold fX8_kept at hf
  refine lv_aload_n hx hb dX8_kept_0 rfl (lv_at hl 0 rfl) ?_
  refine lv_iload_n hx hb dX8_kept_1 rfl (lv_at hl 1 rfl) ?_
  obtain ⟨hk_1, hf⟩ := gd_some hf
  obtain ⟨r_4, st_2, hc_3, hf⟩ := bnd_some hf
  refine q_cq hp hA (va_runV (As := [.int p0]) (rest := []) ⟨hx, hb, hml, hown, hts⟩ (c_X8_recordOf l dC dI ka ad ct h0 p0 _ _ _ hc_3 _) (cwV 1 hts gq_X8_kept_X8_recordOf_128 rfl rfl rfl (by decide +kernel) ⟨Nat.le_of_ble_eq_true rfl, Nat.le_of_ble_eq_true rfl⟩) ⟨PrC.blind _, q_rv10 hK hp hC hk_1, q_pre hp hK hN hZ hC hR hL hA⟩ rfl rfl hl.1 rfl (lv_room (Nat.le_of_ble_eq_true rfl)) dX8_kept_2 ⟨Nat.le_of_ble_eq_true rfl, Nat.le_of_ble_eq_true rfl⟩) (fun H locs hp => ?_)
  have hk_1 : qk st_2 h0 = 11 := by rw [(mo_X8_recordOf h0 p0 _ _ _ hc_3).2.2.1]; exact hk_1
  refine o_astore_n (i := 3) (lv' := [(3, va_rf (Option.map ad r_4)), (0, .ref (ad h0)), (1, .int p0), (2, .int p1)]) hx hb dX8_kept_5 rfl hl (by decide) rfl (fun ls hl => ?_)
  refine lv_aload_n hx hb dX8_kept_6 rfl (lv_at hl 1 rfl) ?_
  refine q_gp (ci := 10) (C := RX8) (T := TX8) (N := 12) (k := 2) hx hb hts iRX8 hown hK hp hk_1 (by decide) rfl rfl (by decide) rfl (Or.inl (hts (.fieldLink RX8 24 "RecordBench" "makes" "[LRecordBench$Make;") (by decide +kernel))) (fun _ h9 => h9) dX8_kept_7 ?_
  refine lv_iload_n hx hb dX8_kept_10 rfl (lv_at hl 3 rfl) ?_
  obtain ⟨r_7, st_5, hc_6, hf⟩ := bnd_some hf
  refine q_cq hp hA (va_runS (As := [va_rf (Option.map ad (qP st_2 h0 2)), .int p1]) (rest := []) ⟨hx, hb, hml, hown, hts⟩ (c_X8_makeOf l dC dI ka ad ct (qP st_2 h0 2) p1 _ _ _ hc_6 _) (va_cwS 2 hts gq_X8_kept_X8_makeOf_136 rfl rfl rfl (by decide +kernel) ⟨Nat.le_of_ble_eq_true rfl, Nat.le_of_ble_eq_true rfl⟩) ⟨PrC.blind _, q_pre hp hK hN hZ hC hR hL hA⟩ rfl rfl hl.1 rfl (lv_room (Nat.le_of_ble_eq_true rfl)) dX8_kept_11 ⟨Nat.le_of_ble_eq_true rfl, Nat.le_of_ble_eq_true rfl⟩) (fun H locs hp => ?_)
  have hk_1 : qk st_5 h0 = 11 := by rw [(mo_X8_makeOf (qP st_2 h0 2) p1 _ _ _ hc_6).2.2.1]; exact hk_1
  refine o_astore (i := 4) (lv' := [(4, va_rf (Option.map ad r_7)), (3, va_rf (Option.map ad r_4)), (0, .ref (ad h0)), (1, .int p0), (2, .int p1)]) hx hb dX8_kept_14 hl (by decide) (by simp [rf_cat, vc_i, vc_l, vc_r, vc_n]) (fun ls hl => ?_)
  refine o_aload_n hx hb dX8_kept_16 rfl (lv_at hl 1 rfl) ?_
  refine o_ifnull (tgt := 38) hx hb dX8_kept_17 (by decide) (fun c_8 => ?_) (fun c_8 => ?_)
  · have hf := pif_t c_8 hf
    refine lv_iconst (v := (-1)) hx hb dX8_kept_38 (by decide) ?_
    obtain ⟨e1, e2⟩ := pr_some hf
    exact W.iret (v := (-1)) hx hb hr (fun t ht hW => ⟨⟨(-1), (), rfl, e1, Cp.end e2 hp ht⟩, hp.2.1.F ht⟩) hp.2.1.2.2 dX8_kept_39
  · have hf := pif_f c_8 hf
    refine o_aload hx hb dX8_kept_20 (lv_at hl 0 rfl) ?_
    refine o_ifnull (tgt := 38) hx hb dX8_kept_22 (by decide) (fun c_9 => ?_) (fun c_9 => ?_)
    · have hf := pif_t c_9 hf
      refine lv_iconst (v := (-1)) hx hb dX8_kept_38 (by decide) ?_
      obtain ⟨e1, e2⟩ := pr_some hf
      exact W.iret (v := (-1)) hx hb hr (fun t ht hW => ⟨⟨(-1), (), rfl, e1, Cp.end e2 hp ht⟩, hp.2.1.F ht⟩) hp.2.1.2.2 dX8_kept_39
    · have hf := pif_f c_9 hf
      refine lv_aload_n hx hb dX8_kept_25 rfl (lv_at hl 2 rfl) ?_
      refine q_gp (ci := 10) (C := RX8) (T := TX8) (N := 12) (k := 4) hx hb hts iRX8 hown hK hp hk_1 (by decide) rfl rfl (by decide) rfl (Or.inl (hts (.fieldLink RX8 42 "RecordBench" "reader" "LRecordBench$RecordReader;") (by decide +kernel))) (fun _ h9 => h9) dX8_kept_26 ?_
      refine o_aload_n hx hb dX8_kept_29 rfl (lv_at hl 1 rfl) ?_
      refine o_aload hx hb dX8_kept_30 (lv_at hl 0 rfl) ?_
      obtain ⟨a_10, ha_11, hf⟩ := ono_some hf
      refine o_at2 ha_11 ?_
      obtain ⟨hk_12, hf⟩ := gd_some hf
      obtain ⟨r_15, st_13, hc_14, hf⟩ := bnd_some hf
      refine q_ci hp hA (va_runV (As := [va_rf (Option.map ad r_4), va_rf (Option.map ad r_7)]) (rest := []) ⟨hx, hb, hml, hown, hts⟩ (c_X3_isSound l dC dI ka ad ct a_10 r_4 r_7 _ _ _ hc_14 _) (cwV 2 hts gq_X8_kept_X3_isSound_144 rfl rfl rfl (by decide +kernel) ⟨Nat.le_of_ble_eq_true rfl, Nat.le_of_ble_eq_true rfl⟩) ⟨PrC.blind _, q_rv5 hK hp hC hk_12, q_pre hp hK hN hZ hC hR hL hA⟩ rfl rfl hl.1 rfl (lv_room (Nat.le_of_ble_eq_true rfl)) dX8_kept_32 ⟨Nat.le_of_ble_eq_true rfl, Nat.le_of_ble_eq_true rfl⟩) (fun H locs hp => ?_)
      have hk_1 : qk st_13 h0 = 11 := by rw [(mo_X3_isSound a_10 r_4 r_7 _ _ _ hc_14).2.2.1]; exact hk_1
      have hk_12 : qk st_13 a_10 = 6 := by rw [(mo_X3_isSound a_10 r_4 r_7 _ _ _ hc_14).2.2.1]; exact hk_12
      refine lv_if_ne (tgt := 40) hx hb dX8_kept_35 (by decide) (fun c_16 => ?_) (fun c_16 => ?_)
      · have hf := pif_f c_16 hf
        refine lv_aload_n hx hb dX8_kept_40 rfl (lv_at hl 2 rfl) ?_
        refine q_gp (ci := 10) (C := RX8) (T := TX8) (N := 12) (k := 4) hx hb hts iRX8 hown hK hp hk_1 (by decide) rfl rfl (by decide) rfl (Or.inl (hts (.fieldLink RX8 42 "RecordBench" "reader" "LRecordBench$RecordReader;") (by decide +kernel))) (fun _ h9 => h9) dX8_kept_41 ?_
        refine o_aload_n hx hb dX8_kept_44 rfl (lv_at hl 1 rfl) ?_
        refine o_aload hx hb dX8_kept_45 (lv_at hl 0 rfl) ?_
        refine lv_iconst (v := 0) hx hb dX8_kept_47 (by decide) ?_
        obtain ⟨a_17, ha_18, hf⟩ := ono_some hf
        refine o_at3 ha_18 ?_
        obtain ⟨hk_19, hf⟩ := gd_some hf
        obtain ⟨r_22, st_20, hc_21, hf⟩ := bnd_some hf
        refine q_ci hp hA (va_runV (As := [va_rf (Option.map ad r_4), va_rf (Option.map ad r_7), .int 0]) (rest := []) ⟨hx, hb, hml, hown, hts⟩ (c_X3_countPieces l dC dI ka ad ct a_17 r_4 r_7 0 _ _ _ hc_21 _) (cwV 3 hts gq_X8_kept_X3_countPieces_180 rfl rfl rfl (by decide +kernel) ⟨Nat.le_of_ble_eq_true rfl, Nat.le_of_ble_eq_true rfl⟩) ⟨PrC.blind _, q_rv5 hK hp hC hk_19, q_pre hp hK hN hZ hC hR hL hA⟩ rfl rfl hl.1 rfl (lv_room (Nat.le_of_ble_eq_true rfl)) dX8_kept_48 ⟨Nat.le_of_ble_eq_true rfl, Nat.le_of_ble_eq_true rfl⟩) (fun H locs hp => ?_)
        have hk_1 : qk st_20 h0 = 11 := by rw [(mo_X3_countPieces a_17 r_4 r_7 0 _ _ _ hc_21).2.2.1]; exact hk_1
        have hk_12 : qk st_20 a_10 = 6 := by rw [(mo_X3_countPieces a_17 r_4 r_7 0 _ _ _ hc_21).2.2.1]; exact hk_12
        have hk_19 : qk st_20 a_17 = 6 := by rw [(mo_X3_countPieces a_17 r_4 r_7 0 _ _ _ hc_21).2.2.1]; exact hk_19
        obtain ⟨e1, e2⟩ := pr_some hf
        exact W.iret (v := r_22) hx hb hr (fun t ht hW => ⟨⟨r_22, (), rfl, e1, Cp.end e2 hp ht⟩, hp.2.1.F ht⟩) hp.2.1.2.2 dX8_kept_51
      · have hf := pif_t c_16 hf
        refine lv_iconst (v := (-1)) hx hb dX8_kept_38 (by decide) ?_
        obtain ⟨e1, e2⟩ := pr_some hf
        exact W.iret (v := (-1)) hx hb hr (fun t ht hW => ⟨⟨(-1), (), rfl, e1, Cp.end e2 hp ht⟩, hp.2.1.F ht⟩) hp.2.1.2.2 dX8_kept_39
noncomputable def fX8_write (h0 : Nat) (p0 : Int32) (p1 : Int32) (p2 : Int32) (st : CS) : Option (Int32 × CS) := gd (qk st h0 = 11) (bnd (fX8_recordOf h0 p0 st) (fun r_4 st_2 => bnd (fX8_recordOf h0 p2 st_2) (fun r_7 st_5 => bnd (fX8_makeOf (qP st_5 h0 2) p1 st_5) (fun r_10 st_8 => pif (r_4 = none) (some (((-1) : Int32), st_8)) (pif (r_7 = none) (some (((-1) : Int32), st_8)) (pif (r_10 = none) (some (((-1) : Int32), st_8)) (ono (qP st_8 h0 4) (fun a_14 => gd (qk st_8 a_14 = 6) (bnd (fX3_isSound a_14 r_4 r_10 st_8) (fun r_19 st_17 => pif (r_19 = 0) (some (((-2) : Int32), st_17)) (ono (qP st_17 h0 5) (fun a_21 => gd (qk st_17 a_21 = 7) (bnv (fX4_rewrite a_21 r_4 r_10 (qP st_17 h0 8) st_17) (fun st_24 => ono (qP st_24 h0 8) (fun a_27 => gd (qk st_24 a_27 = 8) (bnd (fX5_size a_27 st_24) (fun r_32 st_30 => ono r_7 (fun a_33 => gd (qk st_30 a_33 = 8) (bnv (fX5_become a_33 (qP st_24 h0 8) 0 r_32 st_30) (fun st_36 => bnd (fX5_size a_33 st_36) (fun r_41 st_39 => some (r_41, st_39))))))))))))))))))))))
set_option maxHeartbeats 1000000 in
theorem mo_X8_write (h0 : Nat) (p0 : Int32) (p1 : Int32) (p2 : Int32) (st : CS) (r : Int32) (st' : CS) (hf : fX8_write h0 p0 p1 p2 st = some (r, st')) : Ke st st' := by
  unfold fX8_write at hf
  have hm : Ke st st := Ke.rf
  obtain ⟨hk_1, hf⟩ := gd_some hf
  obtain ⟨r_4, st_2, hc_3, hf⟩ := bnd_some hf
  have hm := hm.tr (mo_X8_recordOf h0 p0 _ _ _ hc_3)
  obtain ⟨r_7, st_5, hc_6, hf⟩ := bnd_some hf
  have hm := hm.tr (mo_X8_recordOf h0 p2 _ _ _ hc_6)
  obtain ⟨r_10, st_8, hc_9, hf⟩ := bnd_some hf
  have hm := hm.tr (mo_X8_makeOf (qP st_5 h0 2) p1 _ _ _ hc_9)
  rcases pif_or hf with ⟨c_11, hf⟩ | ⟨c_11, hf⟩
  · obtain ⟨e1, e2⟩ := pr_some hf
    exact e2 ▸ hm
  · rcases pif_or hf with ⟨c_12, hf⟩ | ⟨c_12, hf⟩
    · obtain ⟨e1, e2⟩ := pr_some hf
      exact e2 ▸ hm
    · rcases pif_or hf with ⟨c_13, hf⟩ | ⟨c_13, hf⟩
      · obtain ⟨e1, e2⟩ := pr_some hf
        exact e2 ▸ hm
      · obtain ⟨a_14, ha_15, hf⟩ := ono_some hf
        obtain ⟨hk_16, hf⟩ := gd_some hf
        obtain ⟨r_19, st_17, hc_18, hf⟩ := bnd_some hf
        have hm := hm.tr (mo_X3_isSound a_14 r_4 r_10 _ _ _ hc_18)
        rcases pif_or hf with ⟨c_20, hf⟩ | ⟨c_20, hf⟩
        · obtain ⟨e1, e2⟩ := pr_some hf
          exact e2 ▸ hm
        · obtain ⟨a_21, ha_22, hf⟩ := ono_some hf
          obtain ⟨hk_23, hf⟩ := gd_some hf
          obtain ⟨st_24, hc_25, hf⟩ := bnv_some hf
          have hm := hm.tr (mo_X4_rewrite a_21 r_4 r_10 (qP st_17 h0 8) _ _ hc_25)
          obtain ⟨a_27, ha_28, hf⟩ := ono_some hf
          obtain ⟨hk_29, hf⟩ := gd_some hf
          obtain ⟨r_32, st_30, hc_31, hf⟩ := bnd_some hf
          have hm := hm.tr (mo_X5_size a_27 _ _ _ hc_31)
          obtain ⟨a_33, ha_34, hf⟩ := ono_some hf
          obtain ⟨hk_35, hf⟩ := gd_some hf
          obtain ⟨st_36, hc_37, hf⟩ := bnv_some hf
          have hm := hm.tr (mo_X5_become a_33 (qP st_24 h0 8) 0 r_32 _ _ hc_37)
          obtain ⟨r_41, st_39, hc_40, hf⟩ := bnd_some hf
          have hm := hm.tr (mo_X5_size a_33 _ _ _ hc_40)
          obtain ⟨e1, e2⟩ := pr_some hf
          exact e2 ▸ hm
def wq_X8_write : List Cond := .code yX8_write cX8_write 7 (some .int) :: (([.fieldLink RX8 24 "RecordBench" "makes" "[LRecordBench$Make;", .fieldLink RX8 42 "RecordBench" "reader" "LRecordBench$RecordReader;", .fieldLink RX8 49 "RecordBench" "writer" "LRecordBench$RecordWriter;", .fieldLink RX8 63 "RecordBench" "work" "LRecordBench$Row;", .methodLink RX8 128 yX8_recordOf, .instanceMethod yX8_recordOf, .selects RX8 yX8_recordOf yX8_recordOf, .initialized RX8, .methodLink RX8 136 yX8_makeOf, .static yX8_makeOf, .methodLink RX8 144 yX3_isSound, .instanceMethod yX3_isSound, .selects RX3 yX3_isSound yX3_isSound, .initialized RX3, .methodLink RX8 174 yX4_rewrite, .instanceMethod yX4_rewrite, .selects RX4 yX4_rewrite yX4_rewrite, .initialized RX4, .methodLink RX8 76 yX5_size, .instanceMethod yX5_size, .selects RX5 yX5_size yX5_size, .initialized RX5, .methodLink RX8 132 yX5_become, .instanceMethod yX5_become, .selects RX5 yX5_become yX5_become, .code yX8_recordOf cX8_recordOf 2 (some (.object "RecordBench$Row")), .fieldLink RX8 18 "RecordBench" "records" "[LRecordBench$Row;", .code yX8_makeOf cX8_makeOf 2 (some (.object "RecordBench$Make")), .code yX3_isSound cX3_isSound 3 (some .boolean), .fieldLink RX3 22 "RecordBench$RecordReader" "fault" "I", .fieldLink RX3 26 "RecordBench$RecordReader" "place" "I", .methodLink RX3 29 yX5_size, .methodLink RX3 35 yX3_scan, .instanceMethod yX3_scan, .selects RX3 yX3_scan yX3_scan, .code yX5_size cX5_size 1 (some .int), .fieldLink RX5 21 "RecordBench$Row" "size" "I", .code yX3_scan cX3_scan 13 (some .boolean), .fieldLink RX3 17 "RecordBench$RecordReader" "pieces" "[LRecordBench$Piece;", .methodLink RX3 79 yX3_groupBit, .static yX3_groupBit, .methodLink RX3 43 yX2_look, .instanceMethod yX2_look, .selects RX2 yX2_look yX2_look, .initialized RX2, .methodLink RX3 50 yX1_knownAt, .instanceMethod yX1_knownAt, .selects RX1 yX1_knownAt yX1_knownAt, .initialized RX1, .methodLink RX3 56 yX3_faultOf, .static yX3_faultOf, .methodLink RX3 60 yX3_isRec, .static yX3_isRec, .fieldLink RX3 9 "RecordBench$RecordReader" "makes" "[LRecordBench$Make;", .methodLink RX3 39 yX3_refuse, .instanceMethod yX3_refuse, .selects RX3 yX3_refuse yX3_refuse, .code yX3_groupBit cX3_groupBit 1 (some .int), .code yX2_look cX2_look 6 none, .fieldLink RX2 9 "RecordBench$Piece" "number" "I", .fieldLink RX2 15 "RecordBench$Piece" "withLength" "Z", .fieldLink RX2 19 "RecordBench$Piece" "raw" "J", .fieldLink RX2 23 "RecordBench$Piece" "body" "I", .fieldLink RX2 26 "RecordBench$Piece" "end" "I", .fieldLink RX2 29 "RecordBench$Piece" "fault" "I", .fieldLink RX2 32 "RecordBench$Piece" "pos" "I", .fieldLink RX2 35 "RecordBench$Piece" "broken" "Z", .methodLink RX2 42 yX2_place, .instanceMethod yX2_place, .selects RX2 yX2_place yX2_place, .methodLink RX2 38 yX2_takeVarint, .instanceMethod yX2_takeVarint, .selects RX2 yX2_takeVarint yX2_takeVarint, .code yX2_place cX2_place 6 none, .constantLong RX2 46 (30), .code yX2_takeVarint cX2_takeVarint 7 (some .long), .constantLong RX2 54 (127), .methodLink RX2 48 yX5_byteAt, .instanceMethod yX5_byteAt, .selects RX5 yX5_byteAt yX5_byteAt, .code yX5_byteAt cX5_byteAt 2 (some .int), .fieldLink RX5 15 "RecordBench$Row" "bytes" "[I", .code yX1_knownAt cX1_knownAt 3 (some (.object "RecordBench$Field")), .methodLink RX1 21 yX1_fieldAt, .instanceMethod yX1_fieldAt, .selects RX1 yX1_fieldAt yX1_fieldAt, .code yX1_fieldAt cX1_fieldAt 2 (some (.object "RecordBench$Field")), .fieldLink RX1 11 "RecordBench$Make" "fields" "[LRecordBench$Field;", .code yX3_faultOf cX3_faultOf 5 (some .int), .methodLink RX3 92 yX3_fits, .static yX3_fits, .methodLink RX3 88 yX0_hasLength, .instanceMethod yX0_hasLength, .selects RX0 yX0_hasLength yX0_hasLength, .initialized RX0, .code yX3_fits cX3_fits 3 (some .boolean), .methodLink RX3 96 yX0_isNumber, .instanceMethod yX0_isNumber, .selects RX0 yX0_isNumber yX0_isNumber, .methodLink RX3 110 yX5_isText, .instanceMethod yX5_isText, .selects RX5 yX5_isText yX5_isText, .methodLink RX3 99 yX2_asNumber, .instanceMethod yX2_asNumber, .selects RX2 yX2_asNumber yX2_asNumber, .methodLink RX3 103 yX0_holds, .instanceMethod yX0_holds, .selects RX0 yX0_holds yX0_holds, .code yX0_isNumber cX0_isNumber 1 (some .boolean), .fieldLink RX0 15 "RecordBench$Field" "kind" "I", .code yX5_isText cX5_isText 4 (some .boolean), .methodLink RX5 48 yX5_byteAt, .methodLink RX5 52 yX5_isTextByte, .static yX5_isTextByte, .code yX5_isTextByte cX5_isTextByte 1 (some .boolean), .code yX2_asNumber cX2_asNumber 1 (some .long), .code yX0_holds cX0_holds 3 (some .boolean), .constantLong RX0 37 (-128), .constantLong RX0 39 (127), .constantLong RX0 41 (-2147483648), .constantLong RX0 43 (2147483647), .code yX0_hasLength cX0_hasLength 1 (some .boolean), .code yX3_isRec cX3_isRec 1 (some .boolean), .code yX3_refuse cX3_refuse 3 (some .boolean), .code yX4_rewrite cX4_rewrite 4 none, .fieldLink RX4 27 "RecordBench$RecordWriter" "nothing" "LRecordBench$Row;", .methodLink RX4 31 yX4_rewriteWith, .instanceMethod yX4_rewriteWith, .selects RX4 yX4_rewriteWith yX4_rewriteWith, .code yX4_rewriteWith cX4_rewriteWith 13 none, .fieldLink RX4 17 "RecordBench$RecordWriter" "pieces" "[LRecordBench$Piece;", .methodLink RX4 39 yX5_size, .methodLink RX4 51 yX5_append, .instanceMethod yX5_append, .selects RX5 yX5_append yX5_append, .methodLink RX4 66 yX4_copyPiece, .instanceMethod yX4_copyPiece, .selects RX4 yX4_copyPiece yX4_copyPiece, .methodLink RX4 54 yX1_knownAt, .methodLink RX4 43 yX2_look, .methodLink RX4 35 yX5_cut, .instanceMethod yX5_cut, .selects RX5 yX5_cut yX5_cut, .code yX5_append cX5_append 5 none, .methodLink RX5 25 yX5_push, .instanceMethod yX5_push, .selects RX5 yX5_push yX5_push, .code yX5_push cX5_push 2 none, .code yX4_copyPiece cX4_copyPiece 8 none, .fieldLink RX4 9 "RecordBench$RecordWriter" "makes" "[LRecordBench$Make;", .methodLink RX4 73 yX5_pushKey, .instanceMethod yX5_pushKey, .selects RX5 yX5_pushKey yX5_pushKey, .methodLink RX4 77 yX0_isNumber, .methodLink RX4 102 yX5_push, .methodLink RX4 112 yX4_copyAll, .instanceMethod yX4_copyAll, .selects RX4 yX4_copyAll yX4_copyAll, .methodLink RX4 116 yX5_replace, .instanceMethod yX5_replace, .selects RX5 yX5_replace yX5_replace, .methodLink RX4 96 yX5_pushVarint, .instanceMethod yX5_pushVarint, .selects RX5 yX5_pushVarint yX5_pushVarint, .methodLink RX4 81 yX2_asNumber, .methodLink RX4 85 yX5_pushNumber, .instanceMethod yX5_pushNumber, .selects RX5 yX5_pushNumber yX5_pushNumber, .code yX5_pushKey cX5_pushKey 2 none, .constantLong RX5 37 (2), .methodLink RX5 33 yX5_pushVarint, .methodLink RX5 44 yX0_hasLength, .code yX5_pushVarint cX5_pushVarint 6 none, .constantLong RX5 29 (-128), .constantLong RX5 31 (127), .code yX4_copyAll cX4_copyAll 10 none, .code yX5_replace cX5_replace 3 none, .code yX5_pushNumber cX5_pushNumber 3 none, .code yX5_cut cX5_cut 2 (some .boolean), .code yX5_become cX5_become 6 none] : List Cond) ++ wsX80 ++ wsX30 ++ wsX50 ++ wsX20 ++ wsX00 ++ wsX10 ++ wsX40)
theorem gs_wq_X8_write_wsX80 : GoodIn wq_X8_write wsX80 := fun w h => ⟨List.mem_cons_of_mem _ (List.mem_append_left _ (List.mem_append_left _ (List.mem_append_left _ (List.mem_append_left _ (List.mem_append_left _ (List.mem_append_left _ (List.mem_append_right _ h))))))), (gt_wsX80 w h).2⟩
set_option maxRecDepth 20000 in
theorem gq_X8_write_X8_recordOf_128 : GoodIn wq_X8_write (wsV RX8 128 RX8 yX8_recordOf wq_X8_recordOf) := goodIn_app (goodIn_r _ [5, 6, 7, 8] rfl rfl) (goodIn_ca (goodIn_r _ [26, 27] rfl rfl) gs_wq_X8_write_wsX80)
set_option maxRecDepth 20000 in
theorem gq_X8_write_X8_makeOf_136 : GoodIn wq_X8_write (va_wsS RX8 136 yX8_makeOf wq_X8_makeOf) := goodIn_app (goodIn_r _ [9, 10, 8] rfl rfl) (goodIn_r _ [28] rfl rfl)
theorem gs_wq_X8_write_wsX30 : GoodIn wq_X8_write wsX30 := fun w h => ⟨List.mem_cons_of_mem _ (List.mem_append_left _ (List.mem_append_left _ (List.mem_append_left _ (List.mem_append_left _ (List.mem_append_left _ (List.mem_append_right _ h)))))), (gt_wsX30 w h).2⟩
theorem gs_wq_X8_write_wsX50 : GoodIn wq_X8_write wsX50 := fun w h => ⟨List.mem_cons_of_mem _ (List.mem_append_left _ (List.mem_append_left _ (List.mem_append_left _ (List.mem_append_left _ (List.mem_append_right _ h))))), (gt_wsX50 w h).2⟩
theorem gs_wq_X8_write_wsX20 : GoodIn wq_X8_write wsX20 := fun w h => ⟨List.mem_cons_of_mem _ (List.mem_append_left _ (List.mem_append_left _ (List.mem_append_left _ (List.mem_append_right _ h)))), (gt_wsX20 w h).2⟩
theorem gs_wq_X8_write_wsX00 : GoodIn wq_X8_write wsX00 := fun w h => ⟨List.mem_cons_of_mem _ (List.mem_append_left _ (List.mem_append_left _ (List.mem_append_right _ h))), (gt_wsX00 w h).2⟩
theorem gs_wq_X8_write_wsX10 : GoodIn wq_X8_write wsX10 := fun w h => ⟨List.mem_cons_of_mem _ (List.mem_append_left _ (List.mem_append_right _ h)), (gt_wsX10 w h).2⟩
set_option maxRecDepth 20000 in
theorem gq_X8_write_X3_isSound_144 : GoodIn wq_X8_write (wsV RX8 144 RX3 yX3_isSound wq_X3_isSound) := goodIn_app (goodIn_r _ [11, 12, 13, 14] rfl rfl) (goodIn_ca (goodIn_ca (goodIn_ca (goodIn_ca (goodIn_ca (goodIn_r _ [29, 30, 31, 32, 20, 21, 22, 33, 34, 35, 14, 36, 37, 38, 39, 40, 41, 42, 43, 44, 45, 46, 47, 48, 49, 50, 51, 52, 53, 54, 10, 8, 55, 56, 57, 58, 59, 60, 61, 62, 63, 64, 65, 66, 67, 68, 69, 70, 71, 72, 73, 74, 75, 76, 77, 78, 79, 80, 81, 82, 83, 84, 85, 86, 87, 88, 89, 90, 91, 92, 93, 94, 95, 96, 97, 98, 99, 100, 101, 102, 103, 104, 105, 106, 107, 108, 109, 110, 111, 112, 113, 114, 115, 116, 117, 118, 119, 120, 121, 122, 123, 28, 124] rfl rfl) gs_wq_X8_write_wsX30) gs_wq_X8_write_wsX50) gs_wq_X8_write_wsX20) gs_wq_X8_write_wsX00) gs_wq_X8_write_wsX10)
theorem gs_wq_X8_write_wsX40 : GoodIn wq_X8_write wsX40 := fun w h => ⟨List.mem_cons_of_mem _ (List.mem_append_right _ h), (gt_wsX40 w h).2⟩
set_option maxRecDepth 20000 in
theorem gq_X8_write_X4_rewrite_174 : GoodIn wq_X8_write (wsV RX8 174 RX4 yX4_rewrite wq_X4_rewrite) := goodIn_app (goodIn_r _ [15, 16, 17, 18] rfl rfl) (goodIn_ca (goodIn_ca (goodIn_ca (goodIn_ca (goodIn_ca (goodIn_r _ [125, 126, 127, 128, 129, 18, 130, 131, 132, 20, 21, 22, 133, 134, 135, 136, 137, 138, 139, 47, 48, 49, 140, 43, 44, 45, 141, 142, 143, 36, 37, 144, 112, 79, 80, 145, 146, 147, 81, 82, 148, 149, 150, 151, 152, 153, 154, 98, 99, 95, 155, 10, 8, 156, 157, 158, 159, 160, 161, 162, 163, 164, 165, 104, 105, 166, 167, 168, 169, 170, 171, 172, 93, 94, 173, 174, 175, 122, 110, 109, 28, 176, 59, 60, 61, 62, 63, 64, 65, 66, 67, 68, 69, 70, 71, 72, 73, 74, 75, 76, 77, 78, 83, 84, 85, 86, 87, 88, 177, 116, 178, 179] rfl rfl) gs_wq_X8_write_wsX40) gs_wq_X8_write_wsX20) gs_wq_X8_write_wsX00) gs_wq_X8_write_wsX50) gs_wq_X8_write_wsX10)
set_option maxRecDepth 20000 in
theorem gq_X8_write_X5_size_76 : GoodIn wq_X8_write (wsV RX8 76 RX5 yX5_size wq_X5_size) := goodIn_app (goodIn_r _ [19, 20, 21, 22] rfl rfl) (goodIn_ca (goodIn_r _ [36, 37] rfl rfl) gs_wq_X8_write_wsX50)
set_option maxRecDepth 20000 in
theorem gq_X8_write_X5_become_132 : GoodIn wq_X8_write (wsV RX8 132 RX5 yX5_become wq_X5_become) := goodIn_app (goodIn_r _ [23, 24, 25, 22] rfl rfl) (goodIn_ca (goodIn_r _ [180, 82, 37, 112, 79, 80, 22, 81] rfl rfl) gs_wq_X8_write_wsX50)
set_option maxHeartbeats 4000000 in
set_option maxRecDepth 100000 in
theorem c_X8_write (l : Launch) (dC : Nat → ClassId) (dI : Nat → Nat → Nat) (ka ad : Nat → Nat) (ct : Nat → ClassId) (h0 : Nat) (p0 : Int32) (p1 : Int32) (p2 : Int32) (st st' : CS) (r : Int32) (hf : fX8_write h0 p0 p1 p2 st = some (r, st')) (sz : Nat) : Met l yX8_write wq_X8_write ({ frames := 54, cells := 0, slots := 0, locals := 1506 }) (va_Pc [.ref (ad h0), .int p0, .int p1, .int p2] (PrC (dC, dI) ct ka ad st sz)) (va_Qi (fun r' (_ : Unit) => r' = r) (fun _ => CB (dC, dI) ct ka ad st' (aC ad st sz)) (aC ad st sz)) 0 0 (aC ad st sz) := by
  refine Met.ofW (cc := cX8_write) (maxL := 7) (ret := (some .int)) (by decide) rfl ?_
  intro p e s m args below meth c s₁ B hml hv
  obtain ⟨rfl, hsz, hw0, hK, hN, hZ, hC, hR, hL, hw1, hw2⟩ := hv
  have hx := B.exec
  have hb := B.bytes
  have hr := B.returns
  have hts := atoms_spec (ws := wq_X8_write) B.pre
  have hown : s.vm.findClass RX8 = some m.cls := findClass_of_methodNamed B.named
  have iRX8 : ∀ w ∈ u_ws RX8 TX8 12, w ∈ wq_X8_write := fun w h => List.mem_cons_of_mem _ (List.mem_append_left _ (List.mem_append_left _ (List.mem_append_left _ (List.mem_append_left _ (List.mem_append_left _ (List.mem_append_left _ (List.mem_append_right _ h)))))))
  subst hsz
  have hp : Cp (dC, dI) ka ad ct (aC ad st s.heap.size) s.heap st s.heap [] := ⟨fun i a b => ⟨hw0 i a b, Or.inl ⟨i, a, b, rfl⟩⟩, va_S.rf, hw1, hw2⟩
  generalize hAe : aC ad st s.heap.size = A at hp hZ hC ⊢
  have hA : ∀ q : Nat, s.heap.size ≤ q → A q := fun q h => by rw [← hAe]; exact Or.inr h
  have hl := lv_entry ([.ref (ad h0), .int p0, .int p1, .int p2]) (n := 7) (Nat.le_of_ble_eq_true rfl)
  rw [lg_entry_eq]
  generalize (lg_sl ([.ref (ad h0), .int p0, .int p1, .int p2]) ++ List.replicate (7 - (lg_sl ([.ref (ad h0), .int p0, .int p1, .int p2])).length) Slot.unset).toArray = ls at hl ⊢
  have hl : lv_has ls 7 [(0, .ref (ad h0)), (1, .int p0), (2, .int p1), (3, .int p2)] := hl
  unfold fX8_write at hf
  refine lv_aload_n hx hb dX8_write_0 rfl (lv_at hl 0 rfl) ?_
  refine lv_iload_n hx hb dX8_write_1 rfl (lv_at hl 1 rfl) ?_
  obtain ⟨hk_1, hf⟩ := gd_some hf
  obtain ⟨r_4, st_2, hc_3, hf⟩ := bnd_some hf
  refine q_cq hp hA (va_runV (As := [.int p0]) (rest := []) ⟨hx, hb, hml, hown, hts⟩ (c_X8_recordOf l dC dI ka ad ct h0 p0 _ _ _ hc_3 _) (cwV 1 hts gq_X8_write_X8_recordOf_128 rfl rfl rfl (by decide +kernel) ⟨Nat.le_of_ble_eq_true rfl, Nat.le_of_ble_eq_true rfl⟩) ⟨PrC.blind _, q_rv10 hK hp hC hk_1, q_pre hp hK hN hZ hC hR hL hA⟩ rfl rfl hl.1 rfl (lv_room (Nat.le_of_ble_eq_true rfl)) dX8_write_2 ⟨Nat.le_of_ble_eq_true rfl, Nat.le_of_ble_eq_true rfl⟩) (fun H locs hp => ?_)
  have hk_1 : qk st_2 h0 = 11 := by rw [(mo_X8_recordOf h0 p0 _ _ _ hc_3).2.2.1]; exact hk_1
  refine o_astore (i := 4) (lv' := [(4, va_rf (Option.map ad r_4)), (0, .ref (ad h0)), (1, .int p0), (2, .int p1), (3, .int p2)]) hx hb dX8_write_5 hl (by decide) rfl (fun ls hl => ?_)
  refine lv_aload_n hx hb dX8_write_7 rfl (lv_at hl 1 rfl) ?_
  refine lv_iload_n hx hb dX8_write_8 rfl (lv_at hl 4 rfl) ?_
  obtain ⟨r_7, st_5, hc_6, hf⟩ := bnd_some hf
  refine q_cq hp hA (va_runV (As := [.int p2]) (rest := []) ⟨hx, hb, hml, hown, hts⟩ (c_X8_recordOf l dC dI ka ad ct h0 p2 _ _ _ hc_6 _) (cwV 1 hts gq_X8_write_X8_recordOf_128 rfl rfl rfl (by decide +kernel) ⟨Nat.le_of_ble_eq_true rfl, Nat.le_of_ble_eq_true rfl⟩) ⟨PrC.blind _, q_rv10 hK hp hC hk_1, q_pre hp hK hN hZ hC hR hL hA⟩ rfl rfl hl.1 rfl (lv_room (Nat.le_of_ble_eq_true rfl)) dX8_write_9 ⟨Nat.le_of_ble_eq_true rfl, Nat.le_of_ble_eq_true rfl⟩) (fun H locs hp => ?_)
  have hk_1 : qk st_5 h0 = 11 := by rw [(mo_X8_recordOf h0 p2 _ _ _ hc_6).2.2.1]; exact hk_1
  refine o_astore (i := 5) (lv' := [(5, va_rf (Option.map ad r_7)), (4, va_rf (Option.map ad r_4)), (0, .ref (ad h0)), (1, .int p0), (2, .int p1), (3, .int p2)]) hx hb dX8_write_12 hl (by decide) (by simp [rf_cat, vc_i, vc_l, vc_r, vc_n]) (fun ls hl => ?_)
  refine lv_aload_n hx hb dX8_write_14 rfl (lv_at hl 2 rfl) ?_
  refine q_gp (ci := 10) (C := RX8) (T := TX8) (N := 12) (k := 2) hx hb hts iRX8 hown hK hp hk_1 (by decide) rfl rfl (by decide) rfl (Or.inl (hts (.fieldLink RX8 24 "RecordBench" "makes" "[LRecordBench$Make;") (by decide +kernel))) (fun _ h9 => h9) dX8_write_15 ?_
  refine lv_iload_n hx hb dX8_write_18 rfl (lv_at hl 4 rfl) ?_
  obtain ⟨r_10, st_8, hc_9, hf⟩ := bnd_some hf
  refine q_cq hp hA (va_runS (As := [va_rf (Option.map ad (qP st_5 h0 2)), .int p1]) (rest := []) ⟨hx, hb, hml, hown, hts⟩ (c_X8_makeOf l dC dI ka ad ct (qP st_5 h0 2) p1 _ _ _ hc_9 _) (va_cwS 2 hts gq_X8_write_X8_makeOf_136 rfl rfl rfl (by decide +kernel) ⟨Nat.le_of_ble_eq_true rfl, Nat.le_of_ble_eq_true rfl⟩) ⟨PrC.blind _, q_pre hp hK hN hZ hC hR hL hA⟩ rfl rfl hl.1 rfl (lv_room (Nat.le_of_ble_eq_true rfl)) dX8_write_19 ⟨Nat.le_of_ble_eq_true rfl, Nat.le_of_ble_eq_true rfl⟩) (fun H locs hp => ?_)
  have hk_1 : qk st_8 h0 = 11 := by rw [(mo_X8_makeOf (qP st_5 h0 2) p1 _ _ _ hc_9).2.2.1]; exact hk_1
  refine o_astore (i := 6) (lv' := [(6, va_rf (Option.map ad r_10)), (5, va_rf (Option.map ad r_7)), (4, va_rf (Option.map ad r_4)), (0, .ref (ad h0)), (1, .int p0), (2, .int p1), (3, .int p2)]) hx hb dX8_write_22 hl (by decide) (by simp [rf_cat, vc_i, vc_l, vc_r, vc_n]) (fun ls hl => ?_)
  refine o_aload hx hb dX8_write_24 (lv_at hl 2 rfl) ?_
  refine o_ifnull (tgt := 39) hx hb dX8_write_26 (by decide) (fun c_11 => ?_) (fun c_11 => ?_)
  · have hf := pif_t c_11 hf
    refine lv_iconst (v := (-1)) hx hb dX8_write_39 (by decide) ?_
    obtain ⟨e1, e2⟩ := pr_some hf
    exact W.iret (v := (-1)) hx hb hr (fun t ht hW => ⟨⟨(-1), (), rfl, e1, Cp.end e2 hp ht⟩, hp.2.1.F ht⟩) hp.2.1.2.2 dX8_write_40
  · have hf := pif_f c_11 hf
    refine o_aload hx hb dX8_write_29 (lv_at hl 1 rfl) ?_
    refine o_ifnull (tgt := 39) hx hb dX8_write_31 (by decide) (fun c_12 => ?_) (fun c_12 => ?_)
    · have hf := pif_t c_12 hf
      refine lv_iconst (v := (-1)) hx hb dX8_write_39 (by decide) ?_
      obtain ⟨e1, e2⟩ := pr_some hf
      exact W.iret (v := (-1)) hx hb hr (fun t ht hW => ⟨⟨(-1), (), rfl, e1, Cp.end e2 hp ht⟩, hp.2.1.F ht⟩) hp.2.1.2.2 dX8_write_40
    · have hf := pif_f c_12 hf
      refine o_aload hx hb dX8_write_34 (lv_at hl 0 rfl) ?_
      refine o_ifnonnull (tgt := 41) hx hb dX8_write_36 (by decide) (fun c_13 => ?_) (fun c_13 => ?_)
      · have hf := pif_f c_13 hf
        refine lv_aload_n hx hb dX8_write_41 rfl (lv_at hl 3 rfl) ?_
        refine q_gp (ci := 10) (C := RX8) (T := TX8) (N := 12) (k := 4) hx hb hts iRX8 hown hK hp hk_1 (by decide) rfl rfl (by decide) rfl (Or.inl (hts (.fieldLink RX8 42 "RecordBench" "reader" "LRecordBench$RecordReader;") (by decide +kernel))) (fun _ h9 => h9) dX8_write_42 ?_
        refine o_aload hx hb dX8_write_45 (lv_at hl 2 rfl) ?_
        refine o_aload hx hb dX8_write_47 (lv_at hl 0 rfl) ?_
        obtain ⟨a_14, ha_15, hf⟩ := ono_some hf
        refine o_at2 ha_15 ?_
        obtain ⟨hk_16, hf⟩ := gd_some hf
        obtain ⟨r_19, st_17, hc_18, hf⟩ := bnd_some hf
        refine q_ci hp hA (va_runV (As := [va_rf (Option.map ad r_4), va_rf (Option.map ad r_10)]) (rest := []) ⟨hx, hb, hml, hown, hts⟩ (c_X3_isSound l dC dI ka ad ct a_14 r_4 r_10 _ _ _ hc_18 _) (cwV 2 hts gq_X8_write_X3_isSound_144 rfl rfl rfl (by decide +kernel) ⟨Nat.le_of_ble_eq_true rfl, Nat.le_of_ble_eq_true rfl⟩) ⟨PrC.blind _, q_rv5 hK hp hC hk_16, q_pre hp hK hN hZ hC hR hL hA⟩ rfl rfl hl.1 rfl (lv_room (Nat.le_of_ble_eq_true rfl)) dX8_write_49 ⟨Nat.le_of_ble_eq_true rfl, Nat.le_of_ble_eq_true rfl⟩) (fun H locs hp => ?_)
        have hk_1 : qk st_17 h0 = 11 := by rw [(mo_X3_isSound a_14 r_4 r_10 _ _ _ hc_18).2.2.1]; exact hk_1
        have hk_16 : qk st_17 a_14 = 6 := by rw [(mo_X3_isSound a_14 r_4 r_10 _ _ _ hc_18).2.2.1]; exact hk_16
        refine lv_if_ne (tgt := 58) hx hb dX8_write_52 (by decide) (fun c_20 => ?_) (fun c_20 => ?_)
        · have hf := pif_f c_20 hf
          refine lv_aload_n hx hb dX8_write_58 rfl (lv_at hl 3 rfl) ?_
          refine q_gp (ci := 10) (C := RX8) (T := TX8) (N := 12) (k := 5) hx hb hts iRX8 hown hK hp hk_1 (by decide) rfl rfl (by decide) rfl (Or.inl (hts (.fieldLink RX8 49 "RecordBench" "writer" "LRecordBench$RecordWriter;") (by decide +kernel))) (fun _ h9 => h9) dX8_write_59 ?_
          refine o_aload hx hb dX8_write_62 (lv_at hl 2 rfl) ?_
          refine o_aload hx hb dX8_write_64 (lv_at hl 0 rfl) ?_
          refine lv_aload_n hx hb dX8_write_66 rfl (lv_at hl 3 rfl) ?_
          refine q_gp (ci := 10) (C := RX8) (T := TX8) (N := 12) (k := 8) hx hb hts iRX8 hown hK hp hk_1 (by decide) rfl rfl (by decide) rfl (Or.inl (hts (.fieldLink RX8 63 "RecordBench" "work" "LRecordBench$Row;") (by decide +kernel))) (fun _ h9 => h9) dX8_write_67 ?_
          obtain ⟨a_21, ha_22, hf⟩ := ono_some hf
          refine o_at3 ha_22 ?_
          obtain ⟨hk_23, hf⟩ := gd_some hf
          obtain ⟨st_24, hc_25, hf⟩ := bnv_some hf
          refine q_cv hp hA (va_runV (As := [va_rf (Option.map ad r_4), va_rf (Option.map ad r_10), va_rf (Option.map ad (qP st_17 h0 8))]) (rest := []) ⟨hx, hb, hml, hown, hts⟩ (c_X4_rewrite l dC dI ka ad ct a_21 r_4 r_10 (qP st_17 h0 8) _ _ hc_25 _) (cwV 3 hts gq_X8_write_X4_rewrite_174 rfl rfl rfl (by decide +kernel) ⟨Nat.le_of_ble_eq_true rfl, Nat.le_of_ble_eq_true rfl⟩) ⟨PrC.blind _, q_rv6 hK hp hC hk_23, q_pre hp hK hN hZ hC hR hL hA⟩ rfl rfl hl.1 rfl (lv_room (Nat.le_of_ble_eq_true rfl)) dX8_write_70 ⟨Nat.le_of_ble_eq_true rfl, Nat.le_of_ble_eq_true rfl⟩) (fun H locs hp => ?_)
          have hk_1 : qk st_24 h0 = 11 := by rw [(mo_X4_rewrite a_21 r_4 r_10 (qP st_17 h0 8) _ _ hc_25).2.2.1]; exact hk_1
          have hk_16 : qk st_24 a_14 = 6 := by rw [(mo_X4_rewrite a_21 r_4 r_10 (qP st_17 h0 8) _ _ hc_25).2.2.1]; exact hk_16
          have hk_23 : qk st_24 a_21 = 7 := by rw [(mo_X4_rewrite a_21 r_4 r_10 (qP st_17 h0 8) _ _ hc_25).2.2.1]; exact hk_23
          refine o_aload hx hb dX8_write_73 (lv_at hl 1 rfl) ?_
          refine lv_aload_n hx hb dX8_write_75 rfl (lv_at hl 3 rfl) ?_
          refine q_gp (ci := 10) (C := RX8) (T := TX8) (N := 12) (k := 8) hx hb hts iRX8 hown hK hp hk_1 (by decide) rfl rfl (by decide) rfl (Or.inl (hts (.fieldLink RX8 63 "RecordBench" "work" "LRecordBench$Row;") (by decide +kernel))) (fun _ h9 => h9) dX8_write_76 ?_
          refine lv_iconst (v := 0) hx hb dX8_write_79 (by decide) ?_
          refine lv_aload_n hx hb dX8_write_80 rfl (lv_at hl 3 rfl) ?_
          refine q_gp (ci := 10) (C := RX8) (T := TX8) (N := 12) (k := 8) hx hb hts iRX8 hown hK hp hk_1 (by decide) rfl rfl (by decide) rfl (Or.inl (hts (.fieldLink RX8 63 "RecordBench" "work" "LRecordBench$Row;") (by decide +kernel))) (fun _ h9 => h9) dX8_write_81 ?_
          obtain ⟨a_27, ha_28, hf⟩ := ono_some hf
          refine o_at ha_28 ?_
          obtain ⟨hk_29, hf⟩ := gd_some hf
          obtain ⟨r_32, st_30, hc_31, hf⟩ := bnd_some hf
          refine q_ci hp hA (va_runV (As := []) (rest := [.int 0, va_rf (Option.map ad (qP st_24 h0 8)), va_rf (Option.map ad r_7)]) ⟨hx, hb, hml, hown, hts⟩ (c_X5_size l dC dI ka ad ct a_27 _ _ _ hc_31 _) (cwV 0 hts gq_X8_write_X5_size_76 rfl rfl rfl (by decide +kernel) ⟨Nat.le_of_ble_eq_true rfl, Nat.le_of_ble_eq_true rfl⟩) ⟨PrC.blind _, q_rv7 hK hp hC hk_29, q_pre hp hK hN hZ hC hR hL hA⟩ rfl rfl hl.1 rfl (lv_room (by simp [rf_cat, vc_i, vc_l, vc_r, vc_n])) dX8_write_84 ⟨Nat.le_of_ble_eq_true rfl, Nat.le_of_ble_eq_true rfl⟩) (fun H locs hp => ?_)
          have hk_1 : qk st_30 h0 = 11 := by rw [(mo_X5_size a_27 _ _ _ hc_31).2.2.1]; exact hk_1
          have hk_16 : qk st_30 a_14 = 6 := by rw [(mo_X5_size a_27 _ _ _ hc_31).2.2.1]; exact hk_16
          have hk_23 : qk st_30 a_21 = 7 := by rw [(mo_X5_size a_27 _ _ _ hc_31).2.2.1]; exact hk_23
          have hk_29 : qk st_30 a_27 = 8 := by rw [(mo_X5_size a_27 _ _ _ hc_31).2.2.1]; exact hk_29
          obtain ⟨a_33, ha_34, hf⟩ := ono_some hf
          refine o_at3 ha_34 ?_
          obtain ⟨hk_35, hf⟩ := gd_some hf
          obtain ⟨st_36, hc_37, hf⟩ := bnv_some hf
          refine q_cv hp hA (va_runV (As := [va_rf (Option.map ad (qP st_24 h0 8)), .int 0, .int r_32]) (rest := []) ⟨hx, hb, hml, hown, hts⟩ (c_X5_become l dC dI ka ad ct a_33 (qP st_24 h0 8) 0 r_32 _ _ hc_37 _) (cwV 3 hts gq_X8_write_X5_become_132 rfl rfl rfl (by decide +kernel) ⟨Nat.le_of_ble_eq_true rfl, Nat.le_of_ble_eq_true rfl⟩) ⟨PrC.blind _, q_rv7 hK hp hC hk_35, q_pre hp hK hN hZ hC hR hL hA⟩ rfl rfl hl.1 rfl (lv_room (Nat.le_of_ble_eq_true rfl)) dX8_write_87 ⟨Nat.le_of_ble_eq_true rfl, Nat.le_of_ble_eq_true rfl⟩) (fun H locs hp => ?_)
          have hk_1 : qk st_36 h0 = 11 := by rw [(mo_X5_become a_33 (qP st_24 h0 8) 0 r_32 _ _ hc_37).2.2.1]; exact hk_1
          have hk_16 : qk st_36 a_14 = 6 := by rw [(mo_X5_become a_33 (qP st_24 h0 8) 0 r_32 _ _ hc_37).2.2.1]; exact hk_16
          have hk_23 : qk st_36 a_21 = 7 := by rw [(mo_X5_become a_33 (qP st_24 h0 8) 0 r_32 _ _ hc_37).2.2.1]; exact hk_23
          have hk_29 : qk st_36 a_27 = 8 := by rw [(mo_X5_become a_33 (qP st_24 h0 8) 0 r_32 _ _ hc_37).2.2.1]; exact hk_29
          have hk_35 : qk st_36 a_33 = 8 := by rw [(mo_X5_become a_33 (qP st_24 h0 8) 0 r_32 _ _ hc_37).2.2.1]; exact hk_35
          refine o_aload hx hb dX8_write_90 (lv_at hl 1 rfl) ?_
          refine o_at ha_34 ?_
          obtain ⟨r_41, st_39, hc_40, hf⟩ := bnd_some hf
          refine q_ci hp hA (va_runV (As := []) (rest := []) ⟨hx, hb, hml, hown, hts⟩ (c_X5_size l dC dI ka ad ct a_33 _ _ _ hc_40 _) (cwV 0 hts gq_X8_write_X5_size_76 rfl rfl rfl (by decide +kernel) ⟨Nat.le_of_ble_eq_true rfl, Nat.le_of_ble_eq_true rfl⟩) ⟨PrC.blind _, q_rv7 hK hp hC hk_35, q_pre hp hK hN hZ hC hR hL hA⟩ rfl rfl hl.1 rfl (lv_room (Nat.le_of_ble_eq_true rfl)) dX8_write_92 ⟨Nat.le_of_ble_eq_true rfl, Nat.le_of_ble_eq_true rfl⟩) (fun H locs hp => ?_)
          have hk_1 : qk st_39 h0 = 11 := by rw [(mo_X5_size a_33 _ _ _ hc_40).2.2.1]; exact hk_1
          have hk_16 : qk st_39 a_14 = 6 := by rw [(mo_X5_size a_33 _ _ _ hc_40).2.2.1]; exact hk_16
          have hk_23 : qk st_39 a_21 = 7 := by rw [(mo_X5_size a_33 _ _ _ hc_40).2.2.1]; exact hk_23
          have hk_29 : qk st_39 a_27 = 8 := by rw [(mo_X5_size a_33 _ _ _ hc_40).2.2.1]; exact hk_29
          have hk_35 : qk st_39 a_33 = 8 := by rw [(mo_X5_size a_33 _ _ _ hc_40).2.2.1]; exact hk_35
          obtain ⟨e1, e2⟩ := pr_some hf
          exact W.iret (v := r_41) hx hb hr (fun t ht hW => ⟨⟨r_41, (), rfl, e1, Cp.end e2 hp ht⟩, hp.2.1.F ht⟩) hp.2.1.2.2 dX8_write_95
        · have hf := pif_t c_20 hf
          refine lv_bipush (v := (-2)) hx hb dX8_write_55 (by decide) ?_
          obtain ⟨e1, e2⟩ := pr_some hf
          exact W.iret (v := (-2)) hx hb hr (fun t ht hW => ⟨⟨(-2), (), rfl, e1, Cp.end e2 hp ht⟩, hp.2.1.F ht⟩) hp.2.1.2.2 dX8_write_57
      · have hf := pif_t c_13 hf
        refine lv_iconst (v := (-1)) hx hb dX8_write_39 (by decide) ?_
        obtain ⟨e1, e2⟩ := pr_some hf
        exact W.iret (v := (-1)) hx hb hr (fun t ht hW => ⟨⟨(-1), (), rfl, e1, Cp.end e2 hp ht⟩, hp.2.1.F ht⟩) hp.2.1.2.2 dX8_write_40
noncomputable def fX8_at (h0 : Nat) (p0 : Int32) (p1 : Int32) (st : CS) : Option (Int32 × CS) := gd (qk st h0 = 11) (bnd (fX8_recordOf h0 p0 st) (fun r_4 st_2 => pif (r_4 = none) (some (((-1) : Int32), st_2)) (ono r_4 (fun a_6 => gd (qk st_2 a_6 = 8) (bnd (fX5_byteAt a_6 p1 st_2) (fun r_11 st_9 => some (r_11, st_9)))))))
set_option maxHeartbeats 1000000 in
theorem mo_X8_at (h0 : Nat) (p0 : Int32) (p1 : Int32) (st : CS) (r : Int32) (st' : CS) (hf : fX8_at h0 p0 p1 st = some (r, st')) : Ke st st' := by
  unfold fX8_at at hf
  have hm : Ke st st := Ke.rf
  obtain ⟨hk_1, hf⟩ := gd_some hf
  obtain ⟨r_4, st_2, hc_3, hf⟩ := bnd_some hf
  have hm := hm.tr (mo_X8_recordOf h0 p0 _ _ _ hc_3)
  rcases pif_or hf with ⟨c_5, hf⟩ | ⟨c_5, hf⟩
  · obtain ⟨e1, e2⟩ := pr_some hf
    exact e2 ▸ hm
  · obtain ⟨a_6, ha_7, hf⟩ := ono_some hf
    obtain ⟨hk_8, hf⟩ := gd_some hf
    obtain ⟨r_11, st_9, hc_10, hf⟩ := bnd_some hf
    have hm := hm.tr (mo_X5_byteAt a_6 p1 _ _ _ hc_10)
    obtain ⟨e1, e2⟩ := pr_some hf
    exact e2 ▸ hm
def wq_X8_at : List Cond := .code yX8_at cX8_at 4 (some .int) :: (([.methodLink RX8 128 yX8_recordOf, .instanceMethod yX8_recordOf, .selects RX8 yX8_recordOf yX8_recordOf, .initialized RX8, .methodLink RX8 195 yX5_byteAt, .instanceMethod yX5_byteAt, .selects RX5 yX5_byteAt yX5_byteAt, .initialized RX5, .code yX8_recordOf cX8_recordOf 2 (some (.object "RecordBench$Row")), .fieldLink RX8 18 "RecordBench" "records" "[LRecordBench$Row;", .code yX5_byteAt cX5_byteAt 2 (some .int), .fieldLink RX5 21 "RecordBench$Row" "size" "I", .fieldLink RX5 15 "RecordBench$Row" "bytes" "[I"] : List Cond) ++ wsX80 ++ wsX50)
theorem gs_wq_X8_at_wsX80 : GoodIn wq_X8_at wsX80 := fun w h => ⟨List.mem_cons_of_mem _ (List.mem_append_left _ (List.mem_append_right _ h)), (gt_wsX80 w h).2⟩
set_option maxRecDepth 20000 in
theorem gq_X8_at_X8_recordOf_128 : GoodIn wq_X8_at (wsV RX8 128 RX8 yX8_recordOf wq_X8_recordOf) := goodIn_app (goodIn_r _ [1, 2, 3, 4] rfl rfl) (goodIn_ca (goodIn_r _ [9, 10] rfl rfl) gs_wq_X8_at_wsX80)
theorem gs_wq_X8_at_wsX50 : GoodIn wq_X8_at wsX50 := fun w h => ⟨List.mem_cons_of_mem _ (List.mem_append_right _ h), (gt_wsX50 w h).2⟩
set_option maxRecDepth 20000 in
theorem gq_X8_at_X5_byteAt_195 : GoodIn wq_X8_at (wsV RX8 195 RX5 yX5_byteAt wq_X5_byteAt) := goodIn_app (goodIn_r _ [5, 6, 7, 8] rfl rfl) (goodIn_ca (goodIn_r _ [11, 12, 13] rfl rfl) gs_wq_X8_at_wsX50)
set_option maxHeartbeats 4000000 in
set_option maxRecDepth 100000 in
theorem c_X8_at (l : Launch) (dC : Nat → ClassId) (dI : Nat → Nat → Nat) (ka ad : Nat → Nat) (ct : Nat → ClassId) (h0 : Nat) (p0 : Int32) (p1 : Int32) (st st' : CS) (r : Int32) (hf : fX8_at h0 p0 p1 st = some (r, st')) (sz : Nat) : Met l yX8_at wq_X8_at ({ frames := 1, cells := 0, slots := 0, locals := 25 }) (va_Pc [.ref (ad h0), .int p0, .int p1] (PrC (dC, dI) ct ka ad st sz)) (va_Qi (fun r' (_ : Unit) => r' = r) (fun _ => CB (dC, dI) ct ka ad st' (aC ad st sz)) (aC ad st sz)) 0 0 (aC ad st sz) := by
  refine Met.ofW (cc := cX8_at) (maxL := 4) (ret := (some .int)) (by decide) rfl ?_
  intro p e s m args below meth c s₁ B hml hv
  obtain ⟨rfl, hsz, hw0, hK, hN, hZ, hC, hR, hL, hw1, hw2⟩ := hv
  have hx := B.exec
  have hb := B.bytes
  have hr := B.returns
  have hts := atoms_spec (ws := wq_X8_at) B.pre
  have hown : s.vm.findClass RX8 = some m.cls := findClass_of_methodNamed B.named
  subst hsz
  have hp : Cp (dC, dI) ka ad ct (aC ad st s.heap.size) s.heap st s.heap [] := ⟨fun i a b => ⟨hw0 i a b, Or.inl ⟨i, a, b, rfl⟩⟩, va_S.rf, hw1, hw2⟩
  generalize hAe : aC ad st s.heap.size = A at hp hZ hC ⊢
  have hA : ∀ q : Nat, s.heap.size ≤ q → A q := fun q h => by rw [← hAe]; exact Or.inr h
  have hl := lv_entry ([.ref (ad h0), .int p0, .int p1]) (n := 4) (Nat.le_of_ble_eq_true rfl)
  rw [lg_entry_eq]
  generalize (lg_sl ([.ref (ad h0), .int p0, .int p1]) ++ List.replicate (4 - (lg_sl ([.ref (ad h0), .int p0, .int p1])).length) Slot.unset).toArray = ls at hl ⊢
  have hl : lv_has ls 4 [(0, .ref (ad h0)), (1, .int p0), (2, .int p1)] := hl
  unfold fX8_at at hf
  refine lv_aload_n hx hb dX8_at_0 rfl (lv_at hl 0 rfl) ?_
  refine lv_iload_n hx hb dX8_at_1 rfl (lv_at hl 1 rfl) ?_
  obtain ⟨hk_1, hf⟩ := gd_some hf
  obtain ⟨r_4, st_2, hc_3, hf⟩ := bnd_some hf
  refine q_cq hp hA (va_runV (As := [.int p0]) (rest := []) ⟨hx, hb, hml, hown, hts⟩ (c_X8_recordOf l dC dI ka ad ct h0 p0 _ _ _ hc_3 _) (cwV 1 hts gq_X8_at_X8_recordOf_128 rfl rfl rfl (by decide +kernel) ⟨Nat.le_of_ble_eq_true rfl, Nat.le_of_ble_eq_true rfl⟩) ⟨PrC.blind _, q_rv10 hK hp hC hk_1, q_pre hp hK hN hZ hC hR hL hA⟩ rfl rfl hl.1 rfl (lv_room (Nat.le_of_ble_eq_true rfl)) dX8_at_2 ⟨Nat.le_of_ble_eq_true rfl, Nat.le_of_ble_eq_true rfl⟩) (fun H locs hp => ?_)
  have hk_1 : qk st_2 h0 = 11 := by rw [(mo_X8_recordOf h0 p0 _ _ _ hc_3).2.2.1]; exact hk_1
  refine o_astore_n (i := 3) (lv' := [(3, va_rf (Option.map ad r_4)), (0, .ref (ad h0)), (1, .int p0), (2, .int p1)]) hx hb dX8_at_5 rfl hl (by decide) rfl (fun ls hl => ?_)
  refine o_aload_n hx hb dX8_at_6 rfl (lv_at hl 0 rfl) ?_
  refine o_ifnonnull (tgt := 14) hx hb dX8_at_7 (by decide) (fun c_5 => ?_) (fun c_5 => ?_)
  · have hf := pif_f c_5 hf
    refine o_aload_n hx hb dX8_at_14 rfl (lv_at hl 0 rfl) ?_
    refine lv_iload_n hx hb dX8_at_15 rfl (lv_at hl 3 rfl) ?_
    obtain ⟨a_6, ha_7, hf⟩ := ono_some hf
    refine o_at1 ha_7 ?_
    obtain ⟨hk_8, hf⟩ := gd_some hf
    obtain ⟨r_11, st_9, hc_10, hf⟩ := bnd_some hf
    refine q_ci hp hA (va_runV (As := [.int p1]) (rest := []) ⟨hx, hb, hml, hown, hts⟩ (c_X5_byteAt l dC dI ka ad ct a_6 p1 _ _ _ hc_10 _) (cwV 1 hts gq_X8_at_X5_byteAt_195 rfl rfl rfl (by decide +kernel) ⟨Nat.le_of_ble_eq_true rfl, Nat.le_of_ble_eq_true rfl⟩) ⟨PrC.blind _, q_rv7 hK hp hC hk_8, q_pre hp hK hN hZ hC hR hL hA⟩ rfl rfl hl.1 rfl (lv_room (Nat.le_of_ble_eq_true rfl)) dX8_at_16 ⟨Nat.le_of_ble_eq_true rfl, Nat.le_of_ble_eq_true rfl⟩) (fun H locs hp => ?_)
    have hk_1 : qk st_9 h0 = 11 := by rw [(mo_X5_byteAt a_6 p1 _ _ _ hc_10).2.2.1]; exact hk_1
    have hk_8 : qk st_9 a_6 = 8 := by rw [(mo_X5_byteAt a_6 p1 _ _ _ hc_10).2.2.1]; exact hk_8
    obtain ⟨e1, e2⟩ := pr_some hf
    exact W.iret (v := r_11) hx hb hr (fun t ht hW => ⟨⟨r_11, (), rfl, e1, Cp.end e2 hp ht⟩, hp.2.1.F ht⟩) hp.2.1.2.2 dX8_at_19
  · have hf := pif_t c_5 hf
    refine lv_iconst (v := (-1)) hx hb dX8_at_10 (by decide) ?_
    refine lv_goto (tgt := 19) hx hb dX8_at_11 (by decide) ?_
    obtain ⟨e1, e2⟩ := pr_some hf
    exact W.iret (v := (-1)) hx hb hr (fun t ht hW => ⟨⟨(-1), (), rfl, e1, Cp.end e2 hp ht⟩, hp.2.1.F ht⟩) hp.2.1.2.2 dX8_at_19
noncomputable def fX8_open_126 (h0 : Nat)  (l6 : Option Nat) (gs : CS) : Option (Int32 × CS) := ono l6 (fun a_1 => gd (qk gs a_1 = 8) (bnd (fX5_size a_1 gs) (fun r_6 st_4 => some (r_6, st_4))))
set_option maxHeartbeats 1000000 in
theorem mo_X8_open_126 (h0 : Nat)   (l6 : Option Nat) (gs : CS) (r : Int32) (st' : CS) (hf : fX8_open_126 h0 l6 gs = some (r, st')) : Ke gs st' := by
  unfold fX8_open_126 at hf
  have hm : Ke gs gs := Ke.rf
  obtain ⟨a_1, ha_2, hf⟩ := ono_some hf
  obtain ⟨hk_3, hf⟩ := gd_some hf
  obtain ⟨r_6, st_4, hc_5, hf⟩ := bnd_some hf
  have hm := hm.tr (mo_X5_size a_1 _ _ _ hc_5)
  obtain ⟨e1, e2⟩ := pr_some hf
  exact e2 ▸ hm
noncomputable def fX8_open (h0 : Nat) (p0 : Int32) (p1 : Int32) (p2 : Int32) (p3 : Int32) (st : CS) : Option (Int32 × CS) := gd (qk st h0 = 11) (bnd (fX8_recordOf h0 p0 st) (fun r_10 st_8 => bnd (fX8_recordOf h0 p3 st_8) (fun r_13 st_11 => bnd (fX8_makeOf (qP st_11 h0 2) p1 st_11) (fun r_16 st_14 => bnd (fX8_fieldOf h0 p1 p2 st_14) (fun r_19 st_17 => pif (r_10 = none) (some (((-1) : Int32), st_17)) (pif (r_13 = none) (some (((-1) : Int32), st_17)) (pif (r_16 = none) (some (((-1) : Int32), st_17)) (pif (r_19 = none) (some (((-1) : Int32), st_17)) (ono r_19 (fun a_24 => gd (qk st_17 a_24 = 3) (pif ((qI st_17 a_24 1) = 6) (ono (qP st_17 h0 4) (fun a_28 => gd (qk st_17 a_28 = 6) (bnd (fX3_isSound a_28 r_10 r_16 st_17) (fun r_33 st_31 => pif (r_33 = 0) (some (((-2) : Int32), st_31)) (ono (qP st_31 h0 4) (fun a_35 => gd (qk st_31 a_35 = 6) (bnd (fX3_find a_35 r_10 p2 st_31) (fun r_40 st_38 => pif (r_40 = none) (ono r_13 (fun a_51 => gd (qk st_38 a_51 = 8) (bnd (fX5_cut a_51 0 st_38) (fun r_56 st_54 => fX8_open_126 h0 r_13 st_54)))) (ono r_40 (fun a_42 => gd (qk st_38 a_42 = 5) (ono r_13 (fun a_45 => gd (qk st_38 a_45 = 8) (bnv (fX5_become a_45 r_10 (qI st_38 a_42 3) (qI st_38 a_42 4) st_38) (fun st_48 => fX8_open_126 h0 r_13 st_48)))))))))))))) (some (((-1) : Int32), st_17)))))))))))))
set_option maxHeartbeats 1000000 in
theorem mo_X8_open (h0 : Nat) (p0 : Int32) (p1 : Int32) (p2 : Int32) (p3 : Int32) (st : CS) (r : Int32) (st' : CS) (hf : fX8_open h0 p0 p1 p2 p3 st = some (r, st')) : Ke st st' := by
  unfold fX8_open at hf
  have hm : Ke st st := Ke.rf
  obtain ⟨hk_7, hf⟩ := gd_some hf
  obtain ⟨r_10, st_8, hc_9, hf⟩ := bnd_some hf
  have hm := hm.tr (mo_X8_recordOf h0 p0 _ _ _ hc_9)
  obtain ⟨r_13, st_11, hc_12, hf⟩ := bnd_some hf
  have hm := hm.tr (mo_X8_recordOf h0 p3 _ _ _ hc_12)
  obtain ⟨r_16, st_14, hc_15, hf⟩ := bnd_some hf
  have hm := hm.tr (mo_X8_makeOf (qP st_11 h0 2) p1 _ _ _ hc_15)
  obtain ⟨r_19, st_17, hc_18, hf⟩ := bnd_some hf
  have hm := hm.tr (mo_X8_fieldOf h0 p1 p2 _ _ _ hc_18)
  rcases pif_or hf with ⟨c_20, hf⟩ | ⟨c_20, hf⟩
  · obtain ⟨e1, e2⟩ := pr_some hf
    exact e2 ▸ hm
  · rcases pif_or hf with ⟨c_21, hf⟩ | ⟨c_21, hf⟩
    · obtain ⟨e1, e2⟩ := pr_some hf
      exact e2 ▸ hm
    · rcases pif_or hf with ⟨c_22, hf⟩ | ⟨c_22, hf⟩
      · obtain ⟨e1, e2⟩ := pr_some hf
        exact e2 ▸ hm
      · rcases pif_or hf with ⟨c_23, hf⟩ | ⟨c_23, hf⟩
        · obtain ⟨e1, e2⟩ := pr_some hf
          exact e2 ▸ hm
        · obtain ⟨a_24, ha_25, hf⟩ := ono_some hf
          obtain ⟨hk_26, hf⟩ := gd_some hf
          rcases pif_or hf with ⟨c_27, hf⟩ | ⟨c_27, hf⟩
          · obtain ⟨a_28, ha_29, hf⟩ := ono_some hf
            obtain ⟨hk_30, hf⟩ := gd_some hf
            obtain ⟨r_33, st_31, hc_32, hf⟩ := bnd_some hf
            have hm := hm.tr (mo_X3_isSound a_28 r_10 r_16 _ _ _ hc_32)
            rcases pif_or hf with ⟨c_34, hf⟩ | ⟨c_34, hf⟩
            · obtain ⟨e1, e2⟩ := pr_some hf
              exact e2 ▸ hm
            · obtain ⟨a_35, ha_36, hf⟩ := ono_some hf
              obtain ⟨hk_37, hf⟩ := gd_some hf
              obtain ⟨r_40, st_38, hc_39, hf⟩ := bnd_some hf
              have hm := hm.tr (mo_X3_find a_35 r_10 p2 _ _ _ hc_39)
              rcases pif_or hf with ⟨c_41, hf⟩ | ⟨c_41, hf⟩
              · obtain ⟨a_51, ha_52, hf⟩ := ono_some hf
                obtain ⟨hk_53, hf⟩ := gd_some hf
                obtain ⟨r_56, st_54, hc_55, hf⟩ := bnd_some hf
                have hm := hm.tr (mo_X5_cut a_51 0 _ _ _ hc_55)
                exact hm.tr (mo_X8_open_126 h0 r_13 st_54 _ _ hf)
              · obtain ⟨a_42, ha_43, hf⟩ := ono_some hf
                obtain ⟨hk_44, hf⟩ := gd_some hf
                obtain ⟨a_45, ha_46, hf⟩ := ono_some hf
                obtain ⟨hk_47, hf⟩ := gd_some hf
                obtain ⟨st_48, hc_49, hf⟩ := bnv_some hf
                have hm := hm.tr (mo_X5_become a_45 r_10 (qI st_38 a_42 3) (qI st_38 a_42 4) _ _ hc_49)
                exact hm.tr (mo_X8_open_126 h0 r_13 st_48 _ _ hf)
          · obtain ⟨e1, e2⟩ := pr_some hf
            exact e2 ▸ hm
def wq_X8_open : List Cond := .code yX8_open cX8_open 10 (some .int) :: (([.fieldLink RX8 24 "RecordBench" "makes" "[LRecordBench$Make;", .fieldLink RX8 42 "RecordBench" "reader" "LRecordBench$RecordReader;", .methodLink RX8 76 yX5_size, .instanceMethod yX5_size, .selects RX5 yX5_size yX5_size, .initialized RX5, .methodLink RX8 128 yX8_recordOf, .instanceMethod yX8_recordOf, .selects RX8 yX8_recordOf yX8_recordOf, .initialized RX8, .methodLink RX8 136 yX8_makeOf, .static yX8_makeOf, .methodLink RX8 100 yX8_fieldOf, .instanceMethod yX8_fieldOf, .selects RX8 yX8_fieldOf yX8_fieldOf, .methodLink RX8 144 yX3_isSound, .instanceMethod yX3_isSound, .selects RX3 yX3_isSound yX3_isSound, .initialized RX3, .methodLink RX8 186 yX3_find, .instanceMethod yX3_find, .selects RX3 yX3_find yX3_find, .methodLink RX8 132 yX5_become, .instanceMethod yX5_become, .selects RX5 yX5_become yX5_become, .methodLink RX8 83 yX5_cut, .instanceMethod yX5_cut, .selects RX5 yX5_cut yX5_cut, .code yX5_size cX5_size 1 (some .int), .fieldLink RX5 21 "RecordBench$Row" "size" "I", .code yX8_recordOf cX8_recordOf 2 (some (.object "RecordBench$Row")), .fieldLink RX8 18 "RecordBench" "records" "[LRecordBench$Row;", .code yX8_makeOf cX8_makeOf 2 (some (.object "RecordBench$Make")), .code yX8_fieldOf cX8_fieldOf 4 (some (.object "RecordBench$Field")), .methodLink RX8 225 yX1_fieldAt, .instanceMethod yX1_fieldAt, .selects RX1 yX1_fieldAt yX1_fieldAt, .initialized RX1, .code yX1_fieldAt cX1_fieldAt 2 (some (.object "RecordBench$Field")), .fieldLink RX1 11 "RecordBench$Make" "fields" "[LRecordBench$Field;", .code yX3_isSound cX3_isSound 3 (some .boolean), .fieldLink RX3 22 "RecordBench$RecordReader" "fault" "I", .fieldLink RX3 26 "RecordBench$RecordReader" "place" "I", .methodLink RX3 29 yX5_size, .methodLink RX3 35 yX3_scan, .instanceMethod yX3_scan, .selects RX3 yX3_scan yX3_scan, .code yX3_scan cX3_scan 13 (some .boolean), .fieldLink RX3 17 "RecordBench$RecordReader" "pieces" "[LRecordBench$Piece;", .methodLink RX3 79 yX3_groupBit, .static yX3_groupBit, .methodLink RX3 43 yX2_look, .instanceMethod yX2_look, .selects RX2 yX2_look yX2_look, .initialized RX2, .methodLink RX3 50 yX1_knownAt, .instanceMethod yX1_knownAt, .selects RX1 yX1_knownAt yX1_knownAt, .methodLink RX3 56 yX3_faultOf, .static yX3_faultOf, .methodLink RX3 60 yX3_isRec, .static yX3_isRec, .fieldLink RX3 9 "RecordBench$RecordReader" "makes" "[LRecordBench$Make;", .methodLink RX3 39 yX3_refuse, .instanceMethod yX3_refuse, .selects RX3 yX3_refuse yX3_refuse, .code yX3_groupBit cX3_groupBit 1 (some .int), .code yX2_look cX2_look 6 none, .fieldLink RX2 9 "RecordBench$Piece" "number" "I", .fieldLink RX2 15 "RecordBench$Piece" "withLength" "Z", .fieldLink RX2 19 "RecordBench$Piece" "raw" "J", .fieldLink RX2 23 "RecordBench$Piece" "body" "I", .fieldLink RX2 26 "RecordBench$Piece" "end" "I", .fieldLink RX2 29 "RecordBench$Piece" "fault" "I", .fieldLink RX2 32 "RecordBench$Piece" "pos" "I", .fieldLink RX2 35 "RecordBench$Piece" "broken" "Z", .methodLink RX2 42 yX2_place, .instanceMethod yX2_place, .selects RX2 yX2_place yX2_place, .methodLink RX2 38 yX2_takeVarint, .instanceMethod yX2_takeVarint, .selects RX2 yX2_takeVarint yX2_takeVarint, .code yX2_place cX2_place 6 none, .constantLong RX2 46 (30), .code yX2_takeVarint cX2_takeVarint 7 (some .long), .constantLong RX2 54 (127), .methodLink RX2 48 yX5_byteAt, .instanceMethod yX5_byteAt, .selects RX5 yX5_byteAt yX5_byteAt, .code yX5_byteAt cX5_byteAt 2 (some .int), .fieldLink RX5 15 "RecordBench$Row" "bytes" "[I", .code yX1_knownAt cX1_knownAt 3 (some (.object "RecordBench$Field")), .methodLink RX1 21 yX1_fieldAt, .code yX3_faultOf cX3_faultOf 5 (some .int), .methodLink RX3 92 yX3_fits, .static yX3_fits, .methodLink RX3 88 yX0_hasLength, .instanceMethod yX0_hasLength, .selects RX0 yX0_hasLength yX0_hasLength, .initialized RX0, .code yX3_fits cX3_fits 3 (some .boolean), .methodLink RX3 96 yX0_isNumber, .instanceMethod yX0_isNumber, .selects RX0 yX0_isNumber yX0_isNumber, .methodLink RX3 110 yX5_isText, .instanceMethod yX5_isText, .selects RX5 yX5_isText yX5_isText, .methodLink RX3 99 yX2_asNumber, .instanceMethod yX2_asNumber, .selects RX2 yX2_asNumber yX2_asNumber, .methodLink RX3 103 yX0_holds, .instanceMethod yX0_holds, .selects RX0 yX0_holds yX0_holds, .code yX0_isNumber cX0_isNumber 1 (some .boolean), .fieldLink RX0 15 "RecordBench$Field" "kind" "I", .code yX5_isText cX5_isText 4 (some .boolean), .methodLink RX5 48 yX5_byteAt, .methodLink RX5 52 yX5_isTextByte, .static yX5_isTextByte, .code yX5_isTextByte cX5_isTextByte 1 (some .boolean), .code yX2_asNumber cX2_asNumber 1 (some .long), .code yX0_holds cX0_holds 3 (some .boolean), .constantLong RX0 37 (-128), .constantLong RX0 39 (127), .constantLong RX0 41 (-2147483648), .constantLong RX0 43 (2147483647), .code yX0_hasLength cX0_hasLength 1 (some .boolean), .code yX3_isRec cX3_isRec 1 (some .boolean), .code yX3_refuse cX3_refuse 3 (some .boolean), .code yX3_find cX3_find 6 (some (.object "RecordBench$Piece")), .code yX5_become cX5_become 6 none, .code yX5_cut cX5_cut 2 (some .boolean)] : List Cond) ++ wsX80 ++ wsX00 ++ wsX20 ++ wsX50 ++ wsX10 ++ wsX30)
theorem gs_wq_X8_open_wsX50 : GoodIn wq_X8_open wsX50 := fun w h => ⟨List.mem_cons_of_mem _ (List.mem_append_left _ (List.mem_append_left _ (List.mem_append_right _ h))), (gt_wsX50 w h).2⟩
set_option maxRecDepth 20000 in
theorem gq_X8_open_X5_size_76 : GoodIn wq_X8_open (wsV RX8 76 RX5 yX5_size wq_X5_size) := goodIn_app (goodIn_r _ [3, 4, 5, 6] rfl rfl) (goodIn_ca (goodIn_r _ [29, 30] rfl rfl) gs_wq_X8_open_wsX50)
theorem gs_wq_X8_open_wsX80 : GoodIn wq_X8_open wsX80 := fun w h => ⟨List.mem_cons_of_mem _ (List.mem_append_left _ (List.mem_append_left _ (List.mem_append_left _ (List.mem_append_left _ (List.mem_append_left _ (List.mem_append_right _ h)))))), (gt_wsX80 w h).2⟩
set_option maxRecDepth 20000 in
theorem gq_X8_open_X8_recordOf_128 : GoodIn wq_X8_open (wsV RX8 128 RX8 yX8_recordOf wq_X8_recordOf) := goodIn_app (goodIn_r _ [7, 8, 9, 10] rfl rfl) (goodIn_ca (goodIn_r _ [31, 32] rfl rfl) gs_wq_X8_open_wsX80)
set_option maxRecDepth 20000 in
theorem gq_X8_open_X8_makeOf_136 : GoodIn wq_X8_open (va_wsS RX8 136 yX8_makeOf wq_X8_makeOf) := goodIn_app (goodIn_r _ [11, 12, 10] rfl rfl) (goodIn_r _ [33] rfl rfl)
theorem gs_wq_X8_open_wsX10 : GoodIn wq_X8_open wsX10 := fun w h => ⟨List.mem_cons_of_mem _ (List.mem_append_left _ (List.mem_append_right _ h)), (gt_wsX10 w h).2⟩
set_option maxRecDepth 20000 in
theorem gq_X8_open_X8_fieldOf_100 : GoodIn wq_X8_open (wsV RX8 100 RX8 yX8_fieldOf wq_X8_fieldOf) := goodIn_app (goodIn_r _ [13, 14, 15, 10] rfl rfl) (goodIn_ca (goodIn_ca (goodIn_r _ [34, 1, 11, 12, 10, 35, 36, 37, 38, 33, 39, 40] rfl rfl) gs_wq_X8_open_wsX80) gs_wq_X8_open_wsX10)
theorem gs_wq_X8_open_wsX30 : GoodIn wq_X8_open wsX30 := fun w h => ⟨List.mem_cons_of_mem _ (List.mem_append_right _ h), (gt_wsX30 w h).2⟩
theorem gs_wq_X8_open_wsX20 : GoodIn wq_X8_open wsX20 := fun w h => ⟨List.mem_cons_of_mem _ (List.mem_append_left _ (List.mem_append_left _ (List.mem_append_left _ (List.mem_append_right _ h)))), (gt_wsX20 w h).2⟩
theorem gs_wq_X8_open_wsX00 : GoodIn wq_X8_open wsX00 := fun w h => ⟨List.mem_cons_of_mem _ (List.mem_append_left _ (List.mem_append_left _ (List.mem_append_left _ (List.mem_append_left _ (List.mem_append_right _ h))))), (gt_wsX00 w h).2⟩
set_option maxRecDepth 20000 in
theorem gq_X8_open_X3_isSound_144 : GoodIn wq_X8_open (wsV RX8 144 RX3 yX3_isSound wq_X3_isSound) := goodIn_app (goodIn_r _ [16, 17, 18, 19] rfl rfl) (goodIn_ca (goodIn_ca (goodIn_ca (goodIn_ca (goodIn_ca (goodIn_r _ [41, 42, 43, 44, 4, 5, 6, 45, 46, 47, 19, 29, 30, 48, 49, 50, 51, 52, 53, 54, 55, 56, 57, 58, 38, 59, 60, 61, 62, 63, 12, 10, 64, 65, 66, 67, 68, 69, 70, 71, 72, 73, 74, 75, 76, 77, 78, 79, 80, 81, 82, 83, 84, 85, 86, 87, 88, 89, 90, 91, 92, 93, 36, 37, 39, 40, 94, 95, 96, 97, 98, 99, 100, 101, 102, 103, 104, 105, 106, 107, 108, 109, 110, 111, 112, 113, 114, 115, 116, 117, 118, 119, 120, 121, 122, 123, 124, 125, 126, 127, 128, 33, 129] rfl rfl) gs_wq_X8_open_wsX30) gs_wq_X8_open_wsX50) gs_wq_X8_open_wsX20) gs_wq_X8_open_wsX00) gs_wq_X8_open_wsX10)
set_option maxRecDepth 20000 in
theorem gq_X8_open_X3_find_186 : GoodIn wq_X8_open (wsV RX8 186 RX3 yX3_find wq_X3_find) := goodIn_app (goodIn_r _ [20, 21, 22, 19] rfl rfl) (goodIn_ca (goodIn_ca (goodIn_ca (goodIn_r _ [130, 49, 44, 4, 5, 6, 52, 53, 54, 55, 29, 30, 68, 69, 70, 71, 72, 73, 74, 75, 76, 77, 78, 79, 80, 81, 82, 83, 84, 85, 86, 87, 88, 89, 90, 91] rfl rfl) gs_wq_X8_open_wsX30) gs_wq_X8_open_wsX20) gs_wq_X8_open_wsX50)
set_option maxRecDepth 20000 in
theorem gq_X8_open_X5_become_132 : GoodIn wq_X8_open (wsV RX8 132 RX5 yX5_become wq_X5_become) := goodIn_app (goodIn_r _ [23, 24, 25, 6] rfl rfl) (goodIn_ca (goodIn_r _ [131, 91, 30, 117, 88, 89, 6, 90] rfl rfl) gs_wq_X8_open_wsX50)
set_option maxRecDepth 20000 in
theorem gq_X8_open_X5_cut_83 : GoodIn wq_X8_open (wsV RX8 83 RX5 yX5_cut wq_X5_cut) := goodIn_app (goodIn_r _ [26, 27, 28, 6] rfl rfl) (goodIn_ca (goodIn_r _ [132, 30] rfl rfl) gs_wq_X8_open_wsX50)
set_option maxHeartbeats 4000000 in
set_option maxRecDepth 100000 in
theorem c_X8_open (l : Launch) (dC : Nat → ClassId) (dI : Nat → Nat → Nat) (ka ad : Nat → Nat) (ct : Nat → ClassId) (h0 : Nat) (p0 : Int32) (p1 : Int32) (p2 : Int32) (p3 : Int32) (st st' : CS) (r : Int32) (hf : fX8_open h0 p0 p1 p2 p3 st = some (r, st')) (sz : Nat) : Met l yX8_open wq_X8_open ({ frames := 50, cells := 0, slots := 0, locals := 1334 }) (va_Pc [.ref (ad h0), .int p0, .int p1, .int p2, .int p3] (PrC (dC, dI) ct ka ad st sz)) (va_Qi (fun r' (_ : Unit) => r' = r) (fun _ => CB (dC, dI) ct ka ad st' (aC ad st sz)) (aC ad st sz)) 0 0 (aC ad st sz) := by
  refine Met.ofW (cc := cX8_open) (maxL := 10) (ret := (some .int)) (by decide) rfl ?_
  intro p e s m args below meth c s₁ B hml hv
  obtain ⟨rfl, hsz, hw0, hK, hN, hZ, hC, hR, hL, hw1, hw2⟩ := hv
  have hx := B.exec
  have hb := B.bytes
  have hr := B.returns
  have hts := atoms_spec (ws := wq_X8_open) B.pre
  have hown : s.vm.findClass RX8 = some m.cls := findClass_of_methodNamed B.named
  have iRX8 : ∀ w ∈ u_ws RX8 TX8 12, w ∈ wq_X8_open := fun w h => List.mem_cons_of_mem _ (List.mem_append_left _ (List.mem_append_left _ (List.mem_append_left _ (List.mem_append_left _ (List.mem_append_left _ (List.mem_append_right _ h))))))
  have iRX0 : ∀ w ∈ u_ws RX0 TX0 7, w ∈ wq_X8_open := fun w h => List.mem_cons_of_mem _ (List.mem_append_left _ (List.mem_append_left _ (List.mem_append_left _ (List.mem_append_left _ (List.mem_append_right _ h)))))
  have iRX2 : ∀ w ∈ u_ws RX2 TX2 8, w ∈ wq_X8_open := fun w h => List.mem_cons_of_mem _ (List.mem_append_left _ (List.mem_append_left _ (List.mem_append_left _ (List.mem_append_right _ h))))
  subst hsz
  have hp : Cp (dC, dI) ka ad ct (aC ad st s.heap.size) s.heap st s.heap [] := ⟨fun i a b => ⟨hw0 i a b, Or.inl ⟨i, a, b, rfl⟩⟩, va_S.rf, hw1, hw2⟩
  generalize hAe : aC ad st s.heap.size = A at hp hZ hC ⊢
  have hA : ∀ q : Nat, s.heap.size ≤ q → A q := fun q h => by rw [← hAe]; exact Or.inr h
  have hl := lv_entry ([.ref (ad h0), .int p0, .int p1, .int p2, .int p3]) (n := 10) (Nat.le_of_ble_eq_true rfl)
  rw [lg_entry_eq]
  generalize (lg_sl ([.ref (ad h0), .int p0, .int p1, .int p2, .int p3]) ++ List.replicate (10 - (lg_sl ([.ref (ad h0), .int p0, .int p1, .int p2, .int p3])).length) Slot.unset).toArray = ls at hl ⊢
  have hl : lv_has ls 10 [(0, .ref (ad h0)), (1, .int p0), (2, .int p1), (3, .int p2), (4, .int p3)] := hl
  refine W_blk (fun (u : (Option Nat) × CS) H locs ls => match u with | (l6, gs) => fX8_open_126 h0 l6 gs = some (r, st') ∧ Cp (dC, dI) ka ad ct A s.heap gs H locs ∧ lv_has ls 10 [(6, va_rf (Option.map ad l6))]) (fun (u : (Option Nat) × CS) ls => match u with | (l6, gs) => F0 m 126 ls []) ?_ (fun J126 => ?_)
  · intro u H locs ls hu
    obtain ⟨l6, gs⟩ := u
    obtain ⟨hf, hp, hl⟩ := hu
    show W p l e _ s m _ below meth c _ _ _ _ _ (F0 m 126 ls [])
    unfold fX8_open_126 at hf
    refine o_aload hx hb dX8_open_126 (lv_at hl 0 rfl) ?_
    obtain ⟨a_1, ha_2, hf⟩ := ono_some hf
    refine o_at ha_2 ?_
    obtain ⟨hk_3, hf⟩ := gd_some hf
    obtain ⟨r_6, st_4, hc_5, hf⟩ := bnd_some hf
    refine q_ci hp hA (va_runV (As := []) (rest := []) ⟨hx, hb, hml, hown, hts⟩ (c_X5_size l dC dI ka ad ct a_1 _ _ _ hc_5 _) (cwV 0 hts gq_X8_open_X5_size_76 rfl rfl rfl (by decide +kernel) ⟨Nat.le_of_ble_eq_true rfl, Nat.le_of_ble_eq_true rfl⟩) ⟨PrC.blind _, q_rv7 hK hp hC hk_3, q_pre hp hK hN hZ hC hR hL hA⟩ rfl rfl hl.1 rfl (lv_room (Nat.le_of_ble_eq_true rfl)) dX8_open_128 ⟨Nat.le_of_ble_eq_true rfl, Nat.le_of_ble_eq_true rfl⟩) (fun H locs hp => ?_)
    have hk_3 : qk st_4 a_1 = 8 := by rw [(mo_X5_size a_1 _ _ _ hc_5).2.2.1]; exact hk_3
    obtain ⟨e1, e2⟩ := pr_some hf
    exact W.iret (v := r_6) hx hb hr (fun t ht hW => ⟨⟨r_6, (), rfl, e1, Cp.end e2 hp ht⟩, hp.2.1.F ht⟩) hp.2.1.2.2 dX8_open_131
  unfold fX8_open at hf
  refine lv_aload_n hx hb dX8_open_0 rfl (lv_at hl 0 rfl) ?_
  refine lv_iload_n hx hb dX8_open_1 rfl (lv_at hl 1 rfl) ?_
  obtain ⟨hk_7, hf⟩ := gd_some hf
  obtain ⟨r_10, st_8, hc_9, hf⟩ := bnd_some hf
  refine q_cq hp hA (va_runV (As := [.int p0]) (rest := []) ⟨hx, hb, hml, hown, hts⟩ (c_X8_recordOf l dC dI ka ad ct h0 p0 _ _ _ hc_9 _) (cwV 1 hts gq_X8_open_X8_recordOf_128 rfl rfl rfl (by decide +kernel) ⟨Nat.le_of_ble_eq_true rfl, Nat.le_of_ble_eq_true rfl⟩) ⟨PrC.blind _, q_rv10 hK hp hC hk_7, q_pre hp hK hN hZ hC hR hL hA⟩ rfl rfl hl.1 rfl (lv_room (Nat.le_of_ble_eq_true rfl)) dX8_open_2 ⟨Nat.le_of_ble_eq_true rfl, Nat.le_of_ble_eq_true rfl⟩) (fun H locs hp => ?_)
  have hk_7 : qk st_8 h0 = 11 := by rw [(mo_X8_recordOf h0 p0 _ _ _ hc_9).2.2.1]; exact hk_7
  refine o_astore (i := 5) (lv' := [(5, va_rf (Option.map ad r_10)), (0, .ref (ad h0)), (1, .int p0), (2, .int p1), (3, .int p2), (4, .int p3)]) hx hb dX8_open_5 hl (by decide) rfl (fun ls hl => ?_)
  refine lv_aload_n hx hb dX8_open_7 rfl (lv_at hl 1 rfl) ?_
  refine lv_iload hx hb dX8_open_8 (lv_at hl 5 rfl) ?_
  obtain ⟨r_13, st_11, hc_12, hf⟩ := bnd_some hf
  refine q_cq hp hA (va_runV (As := [.int p3]) (rest := []) ⟨hx, hb, hml, hown, hts⟩ (c_X8_recordOf l dC dI ka ad ct h0 p3 _ _ _ hc_12 _) (cwV 1 hts gq_X8_open_X8_recordOf_128 rfl rfl rfl (by decide +kernel) ⟨Nat.le_of_ble_eq_true rfl, Nat.le_of_ble_eq_true rfl⟩) ⟨PrC.blind _, q_rv10 hK hp hC hk_7, q_pre hp hK hN hZ hC hR hL hA⟩ rfl rfl hl.1 rfl (lv_room (Nat.le_of_ble_eq_true rfl)) dX8_open_10 ⟨Nat.le_of_ble_eq_true rfl, Nat.le_of_ble_eq_true rfl⟩) (fun H locs hp => ?_)
  have hk_7 : qk st_11 h0 = 11 := by rw [(mo_X8_recordOf h0 p3 _ _ _ hc_12).2.2.1]; exact hk_7
  refine o_astore (i := 6) (lv' := [(6, va_rf (Option.map ad r_13)), (5, va_rf (Option.map ad r_10)), (0, .ref (ad h0)), (1, .int p0), (2, .int p1), (3, .int p2), (4, .int p3)]) hx hb dX8_open_13 hl (by decide) (by simp [rf_cat, vc_i, vc_l, vc_r, vc_n]) (fun ls hl => ?_)
  refine lv_aload_n hx hb dX8_open_15 rfl (lv_at hl 2 rfl) ?_
  refine q_gp (ci := 10) (C := RX8) (T := TX8) (N := 12) (k := 2) hx hb hts iRX8 hown hK hp hk_7 (by decide) rfl rfl (by decide) rfl (Or.inl (hts (.fieldLink RX8 24 "RecordBench" "makes" "[LRecordBench$Make;") (by decide +kernel))) (fun _ h9 => h9) dX8_open_16 ?_
  refine lv_iload_n hx hb dX8_open_19 rfl (lv_at hl 4 rfl) ?_
  obtain ⟨r_16, st_14, hc_15, hf⟩ := bnd_some hf
  refine q_cq hp hA (va_runS (As := [va_rf (Option.map ad (qP st_11 h0 2)), .int p1]) (rest := []) ⟨hx, hb, hml, hown, hts⟩ (c_X8_makeOf l dC dI ka ad ct (qP st_11 h0 2) p1 _ _ _ hc_15 _) (va_cwS 2 hts gq_X8_open_X8_makeOf_136 rfl rfl rfl (by decide +kernel) ⟨Nat.le_of_ble_eq_true rfl, Nat.le_of_ble_eq_true rfl⟩) ⟨PrC.blind _, q_pre hp hK hN hZ hC hR hL hA⟩ rfl rfl hl.1 rfl (lv_room (Nat.le_of_ble_eq_true rfl)) dX8_open_20 ⟨Nat.le_of_ble_eq_true rfl, Nat.le_of_ble_eq_true rfl⟩) (fun H locs hp => ?_)
  have hk_7 : qk st_14 h0 = 11 := by rw [(mo_X8_makeOf (qP st_11 h0 2) p1 _ _ _ hc_15).2.2.1]; exact hk_7
  refine o_astore (i := 7) (lv' := [(7, va_rf (Option.map ad r_16)), (6, va_rf (Option.map ad r_13)), (5, va_rf (Option.map ad r_10)), (0, .ref (ad h0)), (1, .int p0), (2, .int p1), (3, .int p2), (4, .int p3)]) hx hb dX8_open_23 hl (by decide) (by simp [rf_cat, vc_i, vc_l, vc_r, vc_n]) (fun ls hl => ?_)
  refine lv_aload_n hx hb dX8_open_25 rfl (lv_at hl 3 rfl) ?_
  refine lv_iload_n hx hb dX8_open_26 rfl (lv_at hl 5 rfl) ?_
  refine lv_iload_n hx hb dX8_open_27 rfl (lv_at hl 6 rfl) ?_
  obtain ⟨r_19, st_17, hc_18, hf⟩ := bnd_some hf
  refine q_cq hp hA (va_runV (As := [.int p1, .int p2]) (rest := []) ⟨hx, hb, hml, hown, hts⟩ (c_X8_fieldOf l dC dI ka ad ct h0 p1 p2 _ _ _ hc_18 _) (cwV 2 hts gq_X8_open_X8_fieldOf_100 rfl rfl rfl (by decide +kernel) ⟨Nat.le_of_ble_eq_true rfl, Nat.le_of_ble_eq_true rfl⟩) ⟨PrC.blind _, q_rv10 hK hp hC hk_7, q_pre hp hK hN hZ hC hR hL hA⟩ rfl rfl hl.1 rfl (lv_room (Nat.le_of_ble_eq_true rfl)) dX8_open_28 ⟨Nat.le_of_ble_eq_true rfl, Nat.le_of_ble_eq_true rfl⟩) (fun H locs hp => ?_)
  have hk_7 : qk st_17 h0 = 11 := by rw [(mo_X8_fieldOf h0 p1 p2 _ _ _ hc_18).2.2.1]; exact hk_7
  refine o_astore (i := 8) (lv' := [(8, va_rf (Option.map ad r_19)), (7, va_rf (Option.map ad r_16)), (6, va_rf (Option.map ad r_13)), (5, va_rf (Option.map ad r_10)), (0, .ref (ad h0)), (1, .int p0), (2, .int p1), (3, .int p2), (4, .int p3)]) hx hb dX8_open_31 hl (by decide) (by simp [rf_cat, vc_i, vc_l, vc_r, vc_n]) (fun ls hl => ?_)
  refine o_aload hx hb dX8_open_33 (lv_at hl 3 rfl) ?_
  refine o_ifnull (tgt := 63) hx hb dX8_open_35 (by decide) (fun c_20 => ?_) (fun c_20 => ?_)
  · have hf := pif_t c_20 hf
    refine lv_iconst (v := (-1)) hx hb dX8_open_63 (by decide) ?_
    obtain ⟨e1, e2⟩ := pr_some hf
    exact W.iret (v := (-1)) hx hb hr (fun t ht hW => ⟨⟨(-1), (), rfl, e1, Cp.end e2 hp ht⟩, hp.2.1.F ht⟩) hp.2.1.2.2 dX8_open_64
  · have hf := pif_f c_20 hf
    refine o_aload hx hb dX8_open_38 (lv_at hl 2 rfl) ?_
    refine o_ifnull (tgt := 63) hx hb dX8_open_40 (by decide) (fun c_21 => ?_) (fun c_21 => ?_)
    · have hf := pif_t c_21 hf
      refine lv_iconst (v := (-1)) hx hb dX8_open_63 (by decide) ?_
      obtain ⟨e1, e2⟩ := pr_some hf
      exact W.iret (v := (-1)) hx hb hr (fun t ht hW => ⟨⟨(-1), (), rfl, e1, Cp.end e2 hp ht⟩, hp.2.1.F ht⟩) hp.2.1.2.2 dX8_open_64
    · have hf := pif_f c_21 hf
      refine o_aload hx hb dX8_open_43 (lv_at hl 1 rfl) ?_
      refine o_ifnull (tgt := 63) hx hb dX8_open_45 (by decide) (fun c_22 => ?_) (fun c_22 => ?_)
      · have hf := pif_t c_22 hf
        refine lv_iconst (v := (-1)) hx hb dX8_open_63 (by decide) ?_
        obtain ⟨e1, e2⟩ := pr_some hf
        exact W.iret (v := (-1)) hx hb hr (fun t ht hW => ⟨⟨(-1), (), rfl, e1, Cp.end e2 hp ht⟩, hp.2.1.F ht⟩) hp.2.1.2.2 dX8_open_64
      · have hf := pif_f c_22 hf
        refine o_aload hx hb dX8_open_48 (lv_at hl 0 rfl) ?_
        refine o_ifnull (tgt := 63) hx hb dX8_open_50 (by decide) (fun c_23 => ?_) (fun c_23 => ?_)
        · have hf := pif_t c_23 hf
          refine lv_iconst (v := (-1)) hx hb dX8_open_63 (by decide) ?_
          obtain ⟨e1, e2⟩ := pr_some hf
          exact W.iret (v := (-1)) hx hb hr (fun t ht hW => ⟨⟨(-1), (), rfl, e1, Cp.end e2 hp ht⟩, hp.2.1.F ht⟩) hp.2.1.2.2 dX8_open_64
        · have hf := pif_f c_23 hf
          refine o_aload hx hb dX8_open_53 (lv_at hl 0 rfl) ?_
          obtain ⟨a_24, ha_25, hf⟩ := ono_some hf
          refine o_at ha_25 ?_
          obtain ⟨hk_26, hf⟩ := gd_some hf
          refine q_gi (ci := 2) (C := RX0) (T := TX0) (N := 7) (k := 1) hx hb hts iRX0 hown hK hp hk_26 (by decide) rfl rfl (by decide) rfl (Or.inr ⟨_, va_Nw.use rfl (hN.1 (.fieldLinkNest RX8 104 "RecordBench$Field" "kind" "I" "RecordBench") (by decide +kernel))⟩) (fun _ h9 => h9) dX8_open_55 ?_
          refine lv_bipush (v := 6) hx hb dX8_open_58 (by decide) ?_
          refine lv_icmp_eq (tgt := 65) hx hb dX8_open_60 (by decide) (fun c_27 => ?_) (fun c_27 => ?_)
          · have hf := pif_t c_27 hf
            refine lv_aload_n hx hb dX8_open_65 rfl (lv_at hl 4 rfl) ?_
            refine q_gp (ci := 10) (C := RX8) (T := TX8) (N := 12) (k := 4) hx hb hts iRX8 hown hK hp hk_7 (by decide) rfl rfl (by decide) rfl (Or.inl (hts (.fieldLink RX8 42 "RecordBench" "reader" "LRecordBench$RecordReader;") (by decide +kernel))) (fun _ h9 => h9) dX8_open_66 ?_
            refine o_aload hx hb dX8_open_69 (lv_at hl 3 rfl) ?_
            refine o_aload hx hb dX8_open_71 (lv_at hl 1 rfl) ?_
            obtain ⟨a_28, ha_29, hf⟩ := ono_some hf
            refine o_at2 ha_29 ?_
            obtain ⟨hk_30, hf⟩ := gd_some hf
            obtain ⟨r_33, st_31, hc_32, hf⟩ := bnd_some hf
            refine q_ci hp hA (va_runV (As := [va_rf (Option.map ad r_10), va_rf (Option.map ad r_16)]) (rest := []) ⟨hx, hb, hml, hown, hts⟩ (c_X3_isSound l dC dI ka ad ct a_28 r_10 r_16 _ _ _ hc_32 _) (cwV 2 hts gq_X8_open_X3_isSound_144 rfl rfl rfl (by decide +kernel) ⟨Nat.le_of_ble_eq_true rfl, Nat.le_of_ble_eq_true rfl⟩) ⟨PrC.blind _, q_rv5 hK hp hC hk_30, q_pre hp hK hN hZ hC hR hL hA⟩ rfl rfl hl.1 rfl (lv_room (Nat.le_of_ble_eq_true rfl)) dX8_open_73 ⟨Nat.le_of_ble_eq_true rfl, Nat.le_of_ble_eq_true rfl⟩) (fun H locs hp => ?_)
            have hk_7 : qk st_31 h0 = 11 := by rw [(mo_X3_isSound a_28 r_10 r_16 _ _ _ hc_32).2.2.1]; exact hk_7
            have hk_26 : qk st_31 a_24 = 3 := by rw [(mo_X3_isSound a_28 r_10 r_16 _ _ _ hc_32).2.2.1]; exact hk_26
            have hk_30 : qk st_31 a_28 = 6 := by rw [(mo_X3_isSound a_28 r_10 r_16 _ _ _ hc_32).2.2.1]; exact hk_30
            refine lv_if_ne (tgt := 82) hx hb dX8_open_76 (by decide) (fun c_34 => ?_) (fun c_34 => ?_)
            · have hf := pif_f c_34 hf
              refine lv_aload_n hx hb dX8_open_82 rfl (lv_at hl 4 rfl) ?_
              refine q_gp (ci := 10) (C := RX8) (T := TX8) (N := 12) (k := 4) hx hb hts iRX8 hown hK hp hk_7 (by decide) rfl rfl (by decide) rfl (Or.inl (hts (.fieldLink RX8 42 "RecordBench" "reader" "LRecordBench$RecordReader;") (by decide +kernel))) (fun _ h9 => h9) dX8_open_83 ?_
              refine o_aload hx hb dX8_open_86 (lv_at hl 3 rfl) ?_
              refine lv_iload_n hx hb dX8_open_88 rfl (lv_at hl 7 rfl) ?_
              obtain ⟨a_35, ha_36, hf⟩ := ono_some hf
              refine o_at2 ha_36 ?_
              obtain ⟨hk_37, hf⟩ := gd_some hf
              obtain ⟨r_40, st_38, hc_39, hf⟩ := bnd_some hf
              refine q_cq hp hA (va_runV (As := [va_rf (Option.map ad r_10), .int p2]) (rest := []) ⟨hx, hb, hml, hown, hts⟩ (c_X3_find l dC dI ka ad ct a_35 r_10 p2 _ _ _ hc_39 _) (cwV 2 hts gq_X8_open_X3_find_186 rfl rfl rfl (by decide +kernel) ⟨Nat.le_of_ble_eq_true rfl, Nat.le_of_ble_eq_true rfl⟩) ⟨PrC.blind _, q_rv5 hK hp hC hk_37, q_pre hp hK hN hZ hC hR hL hA⟩ rfl rfl hl.1 rfl (lv_room (Nat.le_of_ble_eq_true rfl)) dX8_open_89 ⟨Nat.le_of_ble_eq_true rfl, Nat.le_of_ble_eq_true rfl⟩) (fun H locs hp => ?_)
              have hk_7 : qk st_38 h0 = 11 := by rw [(mo_X3_find a_35 r_10 p2 _ _ _ hc_39).2.2.1]; exact hk_7
              have hk_26 : qk st_38 a_24 = 3 := by rw [(mo_X3_find a_35 r_10 p2 _ _ _ hc_39).2.2.1]; exact hk_26
              have hk_30 : qk st_38 a_28 = 6 := by rw [(mo_X3_find a_35 r_10 p2 _ _ _ hc_39).2.2.1]; exact hk_30
              have hk_37 : qk st_38 a_35 = 6 := by rw [(mo_X3_find a_35 r_10 p2 _ _ _ hc_39).2.2.1]; exact hk_37
              refine o_astore (i := 9) (lv' := [(9, va_rf (Option.map ad r_40)), (8, va_rf (Option.map ad r_19)), (7, va_rf (Option.map ad r_16)), (6, va_rf (Option.map ad r_13)), (5, va_rf (Option.map ad r_10)), (0, .ref (ad h0)), (1, .int p0), (2, .int p1), (3, .int p2), (4, .int p3)]) hx hb dX8_open_92 hl (by decide) (by simp [rf_cat, vc_i, vc_l, vc_r, vc_n]) (fun ls hl => ?_)
              refine o_aload hx hb dX8_open_94 (lv_at hl 0 rfl) ?_
              refine o_ifnonnull (tgt := 109) hx hb dX8_open_96 (by decide) (fun c_41 => ?_) (fun c_41 => ?_)
              · have hf := pif_f c_41 hf
                refine o_aload hx hb dX8_open_109 (lv_at hl 3 rfl) ?_
                refine o_aload hx hb dX8_open_111 (lv_at hl 4 rfl) ?_
                refine o_aload hx hb dX8_open_113 (lv_at hl 0 rfl) ?_
                obtain ⟨a_42, ha_43, hf⟩ := ono_some hf
                refine o_at ha_43 ?_
                obtain ⟨hk_44, hf⟩ := gd_some hf
                refine q_gi (ci := 4) (C := RX2) (T := TX2) (N := 8) (k := 3) hx hb hts iRX2 hown hK hp hk_44 (by decide) rfl rfl (by decide) rfl (Or.inr ⟨_, va_Nw.use rfl (hN.1 (.fieldLinkNest RX8 199 "RecordBench$Piece" "body" "I" "RecordBench") (by decide +kernel))⟩) (fun _ h9 => h9) dX8_open_115 ?_
                refine o_aload hx hb dX8_open_118 (lv_at hl 0 rfl) ?_
                refine o_at ha_43 ?_
                refine q_gi (ci := 4) (C := RX2) (T := TX2) (N := 8) (k := 4) hx hb hts iRX2 hown hK hp hk_44 (by decide) rfl rfl (by decide) rfl (Or.inr ⟨_, va_Nw.use rfl (hN.1 (.fieldLinkNest RX8 202 "RecordBench$Piece" "end" "I" "RecordBench") (by decide +kernel))⟩) (fun _ h9 => h9) dX8_open_120 ?_
                obtain ⟨a_45, ha_46, hf⟩ := ono_some hf
                refine o_at3 ha_46 ?_
                obtain ⟨hk_47, hf⟩ := gd_some hf
                obtain ⟨st_48, hc_49, hf⟩ := bnv_some hf
                refine q_cv hp hA (va_runV (As := [va_rf (Option.map ad r_10), .int (qI st_38 a_42 3), .int (qI st_38 a_42 4)]) (rest := []) ⟨hx, hb, hml, hown, hts⟩ (c_X5_become l dC dI ka ad ct a_45 r_10 (qI st_38 a_42 3) (qI st_38 a_42 4) _ _ hc_49 _) (cwV 3 hts gq_X8_open_X5_become_132 rfl rfl rfl (by decide +kernel) ⟨Nat.le_of_ble_eq_true rfl, Nat.le_of_ble_eq_true rfl⟩) ⟨PrC.blind _, q_rv7 hK hp hC hk_47, q_pre hp hK hN hZ hC hR hL hA⟩ rfl rfl hl.1 rfl (lv_room (Nat.le_of_ble_eq_true rfl)) dX8_open_123 ⟨Nat.le_of_ble_eq_true rfl, Nat.le_of_ble_eq_true rfl⟩) (fun H locs hp => ?_)
                have hk_7 : qk st_48 h0 = 11 := by rw [(mo_X5_become a_45 r_10 (qI st_38 a_42 3) (qI st_38 a_42 4) _ _ hc_49).2.2.1]; exact hk_7
                have hk_26 : qk st_48 a_24 = 3 := by rw [(mo_X5_become a_45 r_10 (qI st_38 a_42 3) (qI st_38 a_42 4) _ _ hc_49).2.2.1]; exact hk_26
                have hk_30 : qk st_48 a_28 = 6 := by rw [(mo_X5_become a_45 r_10 (qI st_38 a_42 3) (qI st_38 a_42 4) _ _ hc_49).2.2.1]; exact hk_30
                have hk_37 : qk st_48 a_35 = 6 := by rw [(mo_X5_become a_45 r_10 (qI st_38 a_42 3) (qI st_38 a_42 4) _ _ hc_49).2.2.1]; exact hk_37
                have hk_44 : qk st_48 a_42 = 5 := by rw [(mo_X5_become a_45 r_10 (qI st_38 a_42 3) (qI st_38 a_42 4) _ _ hc_49).2.2.1]; exact hk_44
                have hk_47 : qk st_48 a_45 = 8 := by rw [(mo_X5_become a_45 r_10 (qI st_38 a_42 3) (qI st_38 a_42 4) _ _ hc_49).2.2.1]; exact hk_47
                exact J126 (r_13, st_48) _ _ _ ⟨hf, hp, (lv_sub hl [3] rfl)⟩
              · have hf := pif_t c_41 hf
                refine o_aload hx hb dX8_open_99 (lv_at hl 3 rfl) ?_
                refine lv_iconst (v := 0) hx hb dX8_open_101 (by decide) ?_
                obtain ⟨a_51, ha_52, hf⟩ := ono_some hf
                refine o_at1 ha_52 ?_
                obtain ⟨hk_53, hf⟩ := gd_some hf
                obtain ⟨r_56, st_54, hc_55, hf⟩ := bnd_some hf
                refine q_ci hp hA (va_runV (As := [.int 0]) (rest := []) ⟨hx, hb, hml, hown, hts⟩ (c_X5_cut l dC dI ka ad ct a_51 0 _ _ _ hc_55 _) (cwV 1 hts gq_X8_open_X5_cut_83 rfl rfl rfl (by decide +kernel) ⟨Nat.le_of_ble_eq_true rfl, Nat.le_of_ble_eq_true rfl⟩) ⟨PrC.blind _, q_rv7 hK hp hC hk_53, q_pre hp hK hN hZ hC hR hL hA⟩ rfl rfl hl.1 rfl (lv_room (Nat.le_of_ble_eq_true rfl)) dX8_open_102 ⟨Nat.le_of_ble_eq_true rfl, Nat.le_of_ble_eq_true rfl⟩) (fun H locs hp => ?_)
                have hk_7 : qk st_54 h0 = 11 := by rw [(mo_X5_cut a_51 0 _ _ _ hc_55).2.2.1]; exact hk_7
                have hk_26 : qk st_54 a_24 = 3 := by rw [(mo_X5_cut a_51 0 _ _ _ hc_55).2.2.1]; exact hk_26
                have hk_30 : qk st_54 a_28 = 6 := by rw [(mo_X5_cut a_51 0 _ _ _ hc_55).2.2.1]; exact hk_30
                have hk_37 : qk st_54 a_35 = 6 := by rw [(mo_X5_cut a_51 0 _ _ _ hc_55).2.2.1]; exact hk_37
                have hk_53 : qk st_54 a_51 = 8 := by rw [(mo_X5_cut a_51 0 _ _ _ hc_55).2.2.1]; exact hk_53
                refine lv_pop hx hb dX8_open_105 rfl ?_
                refine lv_goto (tgt := 126) hx hb dX8_open_106 (by decide) ?_
                exact J126 (r_13, st_54) _ _ _ ⟨hf, hp, (lv_sub hl [3] rfl)⟩
            · have hf := pif_t c_34 hf
              refine lv_bipush (v := (-2)) hx hb dX8_open_79 (by decide) ?_
              obtain ⟨e1, e2⟩ := pr_some hf
              exact W.iret (v := (-2)) hx hb hr (fun t ht hW => ⟨⟨(-2), (), rfl, e1, Cp.end e2 hp ht⟩, hp.2.1.F ht⟩) hp.2.1.2.2 dX8_open_81
          · have hf := pif_f c_27 hf
            refine lv_iconst (v := (-1)) hx hb dX8_open_63 (by decide) ?_
            obtain ⟨e1, e2⟩ := pr_some hf
            exact W.iret (v := (-1)) hx hb hr (fun t ht hW => ⟨⟨(-1), (), rfl, e1, Cp.end e2 hp ht⟩, hp.2.1.F ht⟩) hp.2.1.2.2 dX8_open_64
noncomputable def fX8_step (h0 : Nat) (p0 : Int32) (p1 : Int32) (st : CS) : Option (Int32 × CS) := gd (qk st h0 = 11) (bnd (fX8_lookAlong h0 p0 p1 p1 st) (fun r_4 st_2 => some (r_4, st_2)))
set_option maxHeartbeats 1000000 in
theorem mo_X8_step (h0 : Nat) (p0 : Int32) (p1 : Int32) (st : CS) (r : Int32) (st' : CS) (hf : fX8_step h0 p0 p1 st = some (r, st')) : Ke st st' := by
  unfold fX8_step at hf
  have hm : Ke st st := Ke.rf
  obtain ⟨hk_1, hf⟩ := gd_some hf
  obtain ⟨r_4, st_2, hc_3, hf⟩ := bnd_some hf
  have hm := hm.tr (mo_X8_lookAlong h0 p0 p1 p1 _ _ _ hc_3)
  obtain ⟨e1, e2⟩ := pr_some hf
  exact e2 ▸ hm
def wq_X8_step : List Cond := .code yX8_step cX8_step 3 (some .int) :: (([.methodLink RX8 205 yX8_lookAlong, .instanceMethod yX8_lookAlong, .selects RX8 yX8_lookAlong yX8_lookAlong, .initialized RX8, .code yX8_lookAlong cX8_lookAlong 7 (some .int), .fieldLink RX8 24 "RecordBench" "makes" "[LRecordBench$Make;", .fieldLink RX8 56 "RecordBench" "walks" "LRecordBench$Walks;", .fieldLink RX8 73 "RecordBench" "latestNumber" "I", .methodLink RX8 136 yX8_makeOf, .static yX8_makeOf, .instanceMethod yX7_firstNumber, .selects RX7 yX7_firstNumber yX7_firstNumber, .initialized RX7, .instanceMethod yX7_whyBy, .selects RX7 yX7_whyBy yX7_whyBy, .code yX8_makeOf cX8_makeOf 2 (some (.object "RecordBench$Make")), .code yX7_firstNumber cX7_firstNumber 7 (some .int), .methodLink RX7 27 yX7_whyBy, .code yX7_whyBy cX7_whyBy 10 (some .int), .methodLink RX7 50 yX7_isCrowded, .static yX7_isCrowded, .methodLink RX7 58 yX7_recBreaks, .instanceMethod yX7_recBreaks, .selects RX7 yX7_recBreaks yX7_recBreaks, .methodLink RX7 31 yX1_knownAt, .instanceMethod yX1_knownAt, .selects RX1 yX1_knownAt yX1_knownAt, .initialized RX1, .methodLink RX7 37 yX7_isOtherSort, .static yX7_isOtherSort, .methodLink RX7 41 yX7_isNarrower, .static yX7_isNarrower, .methodLink RX7 44 yX0_hasOtherDefault, .instanceMethod yX0_hasOtherDefault, .selects RX0 yX0_hasOtherDefault yX0_hasOtherDefault, .initialized RX0, .code yX7_isCrowded cX7_isCrowded 7 (some .boolean), .methodLink RX7 69 yX0_sharesGroup, .instanceMethod yX0_sharesGroup, .selects RX0 yX0_sharesGroup yX0_sharesGroup, .code yX1_knownAt cX1_knownAt 3 (some (.object "RecordBench$Field")), .methodLink RX1 21 yX1_fieldAt, .instanceMethod yX1_fieldAt, .selects RX1 yX1_fieldAt yX1_fieldAt, .code yX1_fieldAt cX1_fieldAt 2 (some (.object "RecordBench$Field")), .fieldLink RX1 11 "RecordBench$Make" "fields" "[LRecordBench$Field;", .code yX0_sharesGroup cX0_sharesGroup 2 (some .boolean), .fieldLink RX0 18 "RecordBench$Field" "group" "I", .code yX7_recBreaks cX7_recBreaks 8 (some .boolean), .methodLink RX7 75 yX7_breaks, .instanceMethod yX7_breaks, .selects RX7 yX7_breaks yX7_breaks, .code yX7_breaks cX7_breaks 11 (some .boolean), .fieldLink RX7 9 "RecordBench$Walks" "makes" "[LRecordBench$Make;", .fieldLink RX7 15 "RecordBench$Walks" "seen" "[I", .methodLink RX7 23 yX7_firstNumber, .code yX7_isOtherSort cX7_isOtherSort 2 (some .boolean), .methodLink RX7 62 yX0_isOtherSort, .instanceMethod yX0_isOtherSort, .selects RX0 yX0_isOtherSort yX0_isOtherSort, .code yX0_isOtherSort cX0_isOtherSort 2 (some .boolean), .fieldLink RX0 15 "RecordBench$Field" "kind" "I", .methodLink RX0 51 yX0_isNumber, .instanceMethod yX0_isNumber, .selects RX0 yX0_isNumber yX0_isNumber, .code yX0_isNumber cX0_isNumber 1 (some .boolean), .code yX7_isNarrower cX7_isNarrower 2 (some .boolean), .methodLink RX7 64 yX0_isNarrower, .instanceMethod yX0_isNarrower, .selects RX0 yX0_isNarrower yX0_isNarrower, .code yX0_isNarrower cX0_isNarrower 2 (some .boolean), .code yX0_hasOtherDefault cX0_hasOtherDefault 2 (some .boolean), .fieldLink RX0 33 "RecordBench$Field" "value" "J", .fieldLink RX0 30 "RecordBench$Field" "text" "Ljava/lang/String;", .methodLink RX0 55 yJ0_equals_9ea2d, .instanceMethod yJ0_equals_9ea2d, .selects RJ0 yJ0_equals_9ea2d yJ0_equals_9ea2d, .initialized RJ0, .code yJ0_equals_9ea2d cJ0_equals_9ea2d 3 (some .boolean), .classLink RJ0 10 "java/lang/String", .fieldLink RJ0 38 "java/lang/String" "COMPACT_STRINGS" "Z", .fieldLink RJ0 15 "java/lang/String" "coder" "B", .fieldLink RJ0 9 "java/lang/String" "value" "[B", .methodLink RJ0 541 yJ1_equals_b5fdf, .static yJ1_equals_b5fdf, .initialized RJ1, .code yJ1_equals_b5fdf cJ1_equals_b5fdf 3 (some .boolean)] : List Cond) ++ wsX80 ++ wsX00 ++ wsX10 ++ wsX70 ++ wsJ00)
theorem gs_wq_X8_step_wsX80 : GoodIn wq_X8_step wsX80 := fun w h => ⟨List.mem_cons_of_mem _ (List.mem_append_left _ (List.mem_append_left _ (List.mem_append_left _ (List.mem_append_left _ (List.mem_append_right _ h))))), (gt_wsX80 w h).2⟩
theorem gs_wq_X8_step_wsX00 : GoodIn wq_X8_step wsX00 := fun w h => ⟨List.mem_cons_of_mem _ (List.mem_append_left _ (List.mem_append_left _ (List.mem_append_left _ (List.mem_append_right _ h)))), (gt_wsX00 w h).2⟩
theorem gs_wq_X8_step_wsX10 : GoodIn wq_X8_step wsX10 := fun w h => ⟨List.mem_cons_of_mem _ (List.mem_append_left _ (List.mem_append_left _ (List.mem_append_right _ h))), (gt_wsX10 w h).2⟩
theorem gs_wq_X8_step_wsX70 : GoodIn wq_X8_step wsX70 := fun w h => ⟨List.mem_cons_of_mem _ (List.mem_append_left _ (List.mem_append_right _ h)), (gt_wsX70 w h).2⟩
theorem gs_wq_X8_step_wsJ00 : GoodIn wq_X8_step wsJ00 := fun w h => ⟨List.mem_cons_of_mem _ (List.mem_append_right _ h), (gt_wsJ00 w h).2⟩
set_option maxRecDepth 20000 in
theorem gq_X8_step_X8_lookAlong_205 : GoodIn wq_X8_step (wsV RX8 205 RX8 yX8_lookAlong wq_X8_lookAlong) := goodIn_app (goodIn_r _ [1, 2, 3, 4] rfl rfl) (goodIn_ca (goodIn_ca (goodIn_ca (goodIn_ca (goodIn_ca (goodIn_r _ [5, 6, 7, 8, 9, 10, 4, 11, 12, 13, 14, 15, 16, 17, 18, 19, 20, 21, 22, 23, 24, 25, 26, 27, 28, 29, 30, 31, 32, 33, 34, 35, 36, 37, 38, 39, 40, 41, 42, 43, 44, 45, 46, 47, 48, 49, 50, 51, 52, 53, 54, 55, 56, 57, 58, 59, 60, 61, 62, 63, 64, 65, 66, 67, 68, 69, 70, 71, 72, 73, 74, 75, 76, 77, 78, 79, 80, 81, 82, 83, 84, 85, 86, 87] rfl rfl) gs_wq_X8_step_wsX80) gs_wq_X8_step_wsX00) gs_wq_X8_step_wsX10) gs_wq_X8_step_wsX70) gs_wq_X8_step_wsJ00)
set_option maxHeartbeats 4000000 in
set_option maxRecDepth 100000 in
theorem c_X8_step (l : Launch) (dC : Nat → ClassId) (dI : Nat → Nat → Nat) (ka ad : Nat → Nat) (ct : Nat → ClassId) (h0 : Nat) (p0 : Int32) (p1 : Int32) (st st' : CS) (r : Int32) (hf : fX8_step h0 p0 p1 st = some (r, st')) (sz : Nat) : Met l yX8_step wq_X8_step ({ frames := 66, cells := 0, slots := 0, locals := 1902 }) (va_Pc [.ref (ad h0), .int p0, .int p1] (PrC (dC, dI) ct ka ad st sz)) (va_Qi (fun r' (_ : Unit) => r' = r) (fun _ => CB (dC, dI) ct ka ad st' (aC ad st sz)) (aC ad st sz)) 0 0 (aC ad st sz) := by
  refine Met.ofW (cc := cX8_step) (maxL := 3) (ret := (some .int)) (by decide) rfl ?_
  intro p e s m args below meth c s₁ B hml hv
  obtain ⟨rfl, hsz, hw0, hK, hN, hZ, hC, hR, hL, hw1, hw2⟩ := hv
  have hx := B.exec
  have hb := B.bytes
  have hr := B.returns
  have hts := atoms_spec (ws := wq_X8_step) B.pre
  have hown : s.vm.findClass RX8 = some m.cls := findClass_of_methodNamed B.named
  subst hsz
  have hp : Cp (dC, dI) ka ad ct (aC ad st s.heap.size) s.heap st s.heap [] := ⟨fun i a b => ⟨hw0 i a b, Or.inl ⟨i, a, b, rfl⟩⟩, va_S.rf, hw1, hw2⟩
  generalize hAe : aC ad st s.heap.size = A at hp hZ hC ⊢
  have hA : ∀ q : Nat, s.heap.size ≤ q → A q := fun q h => by rw [← hAe]; exact Or.inr h
  have hl := lv_entry ([.ref (ad h0), .int p0, .int p1]) (n := 3) (Nat.le_of_ble_eq_true rfl)
  rw [lg_entry_eq]
  generalize (lg_sl ([.ref (ad h0), .int p0, .int p1]) ++ List.replicate (3 - (lg_sl ([.ref (ad h0), .int p0, .int p1])).length) Slot.unset).toArray = ls at hl ⊢
  have hl : lv_has ls 3 [(0, .ref (ad h0)), (1, .int p0), (2, .int p1)] := hl
  unfold fX8_step at hf
  refine lv_aload_n hx hb dX8_step_0 rfl (lv_at hl 0 rfl) ?_
  refine lv_iload_n hx hb dX8_step_1 rfl (lv_at hl 1 rfl) ?_
  refine lv_iload_n hx hb dX8_step_2 rfl (lv_at hl 2 rfl) ?_
  refine lv_iload_n hx hb dX8_step_3 rfl (lv_at hl 2 rfl) ?_
  obtain ⟨hk_1, hf⟩ := gd_some hf
  obtain ⟨r_4, st_2, hc_3, hf⟩ := bnd_some hf
  refine q_ci hp hA (va_runV (As := [.int p0, .int p1, .int p1]) (rest := []) ⟨hx, hb, hml, hown, hts⟩ (c_X8_lookAlong l dC dI ka ad ct h0 p0 p1 p1 _ _ _ hc_3 _) (cwV 3 hts gq_X8_step_X8_lookAlong_205 rfl rfl rfl (by decide +kernel) ⟨Nat.le_of_ble_eq_true rfl, Nat.le_of_ble_eq_true rfl⟩) ⟨PrC.blind _, q_rv10 hK hp hC hk_1, q_pre hp hK hN hZ hC hR hL hA⟩ rfl rfl hl.1 rfl (lv_room (Nat.le_of_ble_eq_true rfl)) dX8_step_4 ⟨Nat.le_of_ble_eq_true rfl, Nat.le_of_ble_eq_true rfl⟩) (fun H locs hp => ?_)
  have hk_1 : qk st_2 h0 = 11 := by rw [(mo_X8_lookAlong h0 p0 p1 p1 _ _ _ hc_3).2.2.1]; exact hk_1
  obtain ⟨e1, e2⟩ := pr_some hf
  exact W.iret (v := r_4) hx hb hr (fun t ht hW => ⟨⟨r_4, (), rfl, e1, Cp.end e2 hp ht⟩, hp.2.1.F ht⟩) hp.2.1.2.2 dX8_step_7
noncomputable def fX8_walk (h0 : Nat) (p0 : Int32) (p1 : Int32) (p2 : Int32) (st : CS) : Option (Int32 × CS) := gd (qk st h0 = 11) (bnd (fX8_lookAlong h0 p0 p1 p2 st) (fun r_4 st_2 => some (r_4, st_2)))
set_option maxHeartbeats 1000000 in
theorem mo_X8_walk (h0 : Nat) (p0 : Int32) (p1 : Int32) (p2 : Int32) (st : CS) (r : Int32) (st' : CS) (hf : fX8_walk h0 p0 p1 p2 st = some (r, st')) : Ke st st' := by
  unfold fX8_walk at hf
  have hm : Ke st st := Ke.rf
  obtain ⟨hk_1, hf⟩ := gd_some hf
  obtain ⟨r_4, st_2, hc_3, hf⟩ := bnd_some hf
  have hm := hm.tr (mo_X8_lookAlong h0 p0 p1 p2 _ _ _ hc_3)
  obtain ⟨e1, e2⟩ := pr_some hf
  exact e2 ▸ hm
def wq_X8_walk : List Cond := .code yX8_walk cX8_walk 4 (some .int) :: (([.methodLink RX8 205 yX8_lookAlong, .instanceMethod yX8_lookAlong, .selects RX8 yX8_lookAlong yX8_lookAlong, .initialized RX8, .code yX8_lookAlong cX8_lookAlong 7 (some .int), .fieldLink RX8 24 "RecordBench" "makes" "[LRecordBench$Make;", .fieldLink RX8 56 "RecordBench" "walks" "LRecordBench$Walks;", .fieldLink RX8 73 "RecordBench" "latestNumber" "I", .methodLink RX8 136 yX8_makeOf, .static yX8_makeOf, .instanceMethod yX7_firstNumber, .selects RX7 yX7_firstNumber yX7_firstNumber, .initialized RX7, .instanceMethod yX7_whyBy, .selects RX7 yX7_whyBy yX7_whyBy, .code yX8_makeOf cX8_makeOf 2 (some (.object "RecordBench$Make")), .code yX7_firstNumber cX7_firstNumber 7 (some .int), .methodLink RX7 27 yX7_whyBy, .code yX7_whyBy cX7_whyBy 10 (some .int), .methodLink RX7 50 yX7_isCrowded, .static yX7_isCrowded, .methodLink RX7 58 yX7_recBreaks, .instanceMethod yX7_recBreaks, .selects RX7 yX7_recBreaks yX7_recBreaks, .methodLink RX7 31 yX1_knownAt, .instanceMethod yX1_knownAt, .selects RX1 yX1_knownAt yX1_knownAt, .initialized RX1, .methodLink RX7 37 yX7_isOtherSort, .static yX7_isOtherSort, .methodLink RX7 41 yX7_isNarrower, .static yX7_isNarrower, .methodLink RX7 44 yX0_hasOtherDefault, .instanceMethod yX0_hasOtherDefault, .selects RX0 yX0_hasOtherDefault yX0_hasOtherDefault, .initialized RX0, .code yX7_isCrowded cX7_isCrowded 7 (some .boolean), .methodLink RX7 69 yX0_sharesGroup, .instanceMethod yX0_sharesGroup, .selects RX0 yX0_sharesGroup yX0_sharesGroup, .code yX1_knownAt cX1_knownAt 3 (some (.object "RecordBench$Field")), .methodLink RX1 21 yX1_fieldAt, .instanceMethod yX1_fieldAt, .selects RX1 yX1_fieldAt yX1_fieldAt, .code yX1_fieldAt cX1_fieldAt 2 (some (.object "RecordBench$Field")), .fieldLink RX1 11 "RecordBench$Make" "fields" "[LRecordBench$Field;", .code yX0_sharesGroup cX0_sharesGroup 2 (some .boolean), .fieldLink RX0 18 "RecordBench$Field" "group" "I", .code yX7_recBreaks cX7_recBreaks 8 (some .boolean), .methodLink RX7 75 yX7_breaks, .instanceMethod yX7_breaks, .selects RX7 yX7_breaks yX7_breaks, .code yX7_breaks cX7_breaks 11 (some .boolean), .fieldLink RX7 9 "RecordBench$Walks" "makes" "[LRecordBench$Make;", .fieldLink RX7 15 "RecordBench$Walks" "seen" "[I", .methodLink RX7 23 yX7_firstNumber, .code yX7_isOtherSort cX7_isOtherSort 2 (some .boolean), .methodLink RX7 62 yX0_isOtherSort, .instanceMethod yX0_isOtherSort, .selects RX0 yX0_isOtherSort yX0_isOtherSort, .code yX0_isOtherSort cX0_isOtherSort 2 (some .boolean), .fieldLink RX0 15 "RecordBench$Field" "kind" "I", .methodLink RX0 51 yX0_isNumber, .instanceMethod yX0_isNumber, .selects RX0 yX0_isNumber yX0_isNumber, .code yX0_isNumber cX0_isNumber 1 (some .boolean), .code yX7_isNarrower cX7_isNarrower 2 (some .boolean), .methodLink RX7 64 yX0_isNarrower, .instanceMethod yX0_isNarrower, .selects RX0 yX0_isNarrower yX0_isNarrower, .code yX0_isNarrower cX0_isNarrower 2 (some .boolean), .code yX0_hasOtherDefault cX0_hasOtherDefault 2 (some .boolean), .fieldLink RX0 33 "RecordBench$Field" "value" "J", .fieldLink RX0 30 "RecordBench$Field" "text" "Ljava/lang/String;", .methodLink RX0 55 yJ0_equals_9ea2d, .instanceMethod yJ0_equals_9ea2d, .selects RJ0 yJ0_equals_9ea2d yJ0_equals_9ea2d, .initialized RJ0, .code yJ0_equals_9ea2d cJ0_equals_9ea2d 3 (some .boolean), .classLink RJ0 10 "java/lang/String", .fieldLink RJ0 38 "java/lang/String" "COMPACT_STRINGS" "Z", .fieldLink RJ0 15 "java/lang/String" "coder" "B", .fieldLink RJ0 9 "java/lang/String" "value" "[B", .methodLink RJ0 541 yJ1_equals_b5fdf, .static yJ1_equals_b5fdf, .initialized RJ1, .code yJ1_equals_b5fdf cJ1_equals_b5fdf 3 (some .boolean)] : List Cond) ++ wsX80 ++ wsX00 ++ wsX10 ++ wsX70 ++ wsJ00)
theorem gs_wq_X8_walk_wsX80 : GoodIn wq_X8_walk wsX80 := fun w h => ⟨List.mem_cons_of_mem _ (List.mem_append_left _ (List.mem_append_left _ (List.mem_append_left _ (List.mem_append_left _ (List.mem_append_right _ h))))), (gt_wsX80 w h).2⟩
theorem gs_wq_X8_walk_wsX00 : GoodIn wq_X8_walk wsX00 := fun w h => ⟨List.mem_cons_of_mem _ (List.mem_append_left _ (List.mem_append_left _ (List.mem_append_left _ (List.mem_append_right _ h)))), (gt_wsX00 w h).2⟩
theorem gs_wq_X8_walk_wsX10 : GoodIn wq_X8_walk wsX10 := fun w h => ⟨List.mem_cons_of_mem _ (List.mem_append_left _ (List.mem_append_left _ (List.mem_append_right _ h))), (gt_wsX10 w h).2⟩
theorem gs_wq_X8_walk_wsX70 : GoodIn wq_X8_walk wsX70 := fun w h => ⟨List.mem_cons_of_mem _ (List.mem_append_left _ (List.mem_append_right _ h)), (gt_wsX70 w h).2⟩
theorem gs_wq_X8_walk_wsJ00 : GoodIn wq_X8_walk wsJ00 := fun w h => ⟨List.mem_cons_of_mem _ (List.mem_append_right _ h), (gt_wsJ00 w h).2⟩
set_option maxRecDepth 20000 in
theorem gq_X8_walk_X8_lookAlong_205 : GoodIn wq_X8_walk (wsV RX8 205 RX8 yX8_lookAlong wq_X8_lookAlong) := goodIn_app (goodIn_r _ [1, 2, 3, 4] rfl rfl) (goodIn_ca (goodIn_ca (goodIn_ca (goodIn_ca (goodIn_ca (goodIn_r _ [5, 6, 7, 8, 9, 10, 4, 11, 12, 13, 14, 15, 16, 17, 18, 19, 20, 21, 22, 23, 24, 25, 26, 27, 28, 29, 30, 31, 32, 33, 34, 35, 36, 37, 38, 39, 40, 41, 42, 43, 44, 45, 46, 47, 48, 49, 50, 51, 52, 53, 54, 55, 56, 57, 58, 59, 60, 61, 62, 63, 64, 65, 66, 67, 68, 69, 70, 71, 72, 73, 74, 75, 76, 77, 78, 79, 80, 81, 82, 83, 84, 85, 86, 87] rfl rfl) gs_wq_X8_walk_wsX80) gs_wq_X8_walk_wsX00) gs_wq_X8_walk_wsX10) gs_wq_X8_walk_wsX70) gs_wq_X8_walk_wsJ00)
set_option maxHeartbeats 4000000 in
set_option maxRecDepth 100000 in
theorem c_X8_walk (l : Launch) (dC : Nat → ClassId) (dI : Nat → Nat → Nat) (ka ad : Nat → Nat) (ct : Nat → ClassId) (h0 : Nat) (p0 : Int32) (p1 : Int32) (p2 : Int32) (st st' : CS) (r : Int32) (hf : fX8_walk h0 p0 p1 p2 st = some (r, st')) (sz : Nat) : Met l yX8_walk wq_X8_walk ({ frames := 66, cells := 0, slots := 0, locals := 1902 }) (va_Pc [.ref (ad h0), .int p0, .int p1, .int p2] (PrC (dC, dI) ct ka ad st sz)) (va_Qi (fun r' (_ : Unit) => r' = r) (fun _ => CB (dC, dI) ct ka ad st' (aC ad st sz)) (aC ad st sz)) 0 0 (aC ad st sz) := by
  refine Met.ofW (cc := cX8_walk) (maxL := 4) (ret := (some .int)) (by decide) rfl ?_
  intro p e s m args below meth c s₁ B hml hv
  obtain ⟨rfl, hsz, hw0, hK, hN, hZ, hC, hR, hL, hw1, hw2⟩ := hv
  have hx := B.exec
  have hb := B.bytes
  have hr := B.returns
  have hts := atoms_spec (ws := wq_X8_walk) B.pre
  have hown : s.vm.findClass RX8 = some m.cls := findClass_of_methodNamed B.named
  subst hsz
  have hp : Cp (dC, dI) ka ad ct (aC ad st s.heap.size) s.heap st s.heap [] := ⟨fun i a b => ⟨hw0 i a b, Or.inl ⟨i, a, b, rfl⟩⟩, va_S.rf, hw1, hw2⟩
  generalize hAe : aC ad st s.heap.size = A at hp hZ hC ⊢
  have hA : ∀ q : Nat, s.heap.size ≤ q → A q := fun q h => by rw [← hAe]; exact Or.inr h
  have hl := lv_entry ([.ref (ad h0), .int p0, .int p1, .int p2]) (n := 4) (Nat.le_of_ble_eq_true rfl)
  rw [lg_entry_eq]
  generalize (lg_sl ([.ref (ad h0), .int p0, .int p1, .int p2]) ++ List.replicate (4 - (lg_sl ([.ref (ad h0), .int p0, .int p1, .int p2])).length) Slot.unset).toArray = ls at hl ⊢
  have hl : lv_has ls 4 [(0, .ref (ad h0)), (1, .int p0), (2, .int p1), (3, .int p2)] := hl
  unfold fX8_walk at hf
  refine lv_aload_n hx hb dX8_walk_0 rfl (lv_at hl 0 rfl) ?_
  refine lv_iload_n hx hb dX8_walk_1 rfl (lv_at hl 1 rfl) ?_
  refine lv_iload_n hx hb dX8_walk_2 rfl (lv_at hl 2 rfl) ?_
  refine lv_iload_n hx hb dX8_walk_3 rfl (lv_at hl 3 rfl) ?_
  obtain ⟨hk_1, hf⟩ := gd_some hf
  obtain ⟨r_4, st_2, hc_3, hf⟩ := bnd_some hf
  refine q_ci hp hA (va_runV (As := [.int p0, .int p1, .int p2]) (rest := []) ⟨hx, hb, hml, hown, hts⟩ (c_X8_lookAlong l dC dI ka ad ct h0 p0 p1 p2 _ _ _ hc_3 _) (cwV 3 hts gq_X8_walk_X8_lookAlong_205 rfl rfl rfl (by decide +kernel) ⟨Nat.le_of_ble_eq_true rfl, Nat.le_of_ble_eq_true rfl⟩) ⟨PrC.blind _, q_rv10 hK hp hC hk_1, q_pre hp hK hN hZ hC hR hL hA⟩ rfl rfl hl.1 rfl (lv_room (Nat.le_of_ble_eq_true rfl)) dX8_walk_4 ⟨Nat.le_of_ble_eq_true rfl, Nat.le_of_ble_eq_true rfl⟩) (fun H locs hp => ?_)
  have hk_1 : qk st_2 h0 = 11 := by rw [(mo_X8_lookAlong h0 p0 p1 p2 _ _ _ hc_3).2.2.1]; exact hk_1
  obtain ⟨e1, e2⟩ := pr_some hf
  exact W.iret (v := r_4) hx hb hr (fun t ht hW => ⟨⟨r_4, (), rfl, e1, Cp.end e2 hp ht⟩, hp.2.1.F ht⟩) hp.2.1.2.2 dX8_walk_7
noncomputable def fX8_by (h0 : Nat) (st : CS) : Option (Int32 × CS) := gd (qk st h0 = 11) (some (qI st h0 11, st))
set_option maxHeartbeats 1000000 in
theorem mo_X8_by (h0 : Nat) (st : CS) (r : Int32) (st' : CS) (hf : fX8_by h0 st = some (r, st')) : Ke st st' := by
  unfold fX8_by at hf
  have hm : Ke st st := Ke.rf
  obtain ⟨hk_1, hf⟩ := gd_some hf
  obtain ⟨e1, e2⟩ := pr_some hf
  exact e2 ▸ hm
def wq_X8_by : List Cond := .code yX8_by cX8_by 1 (some .int) :: (([.fieldLink RX8 73 "RecordBench" "latestNumber" "I"] : List Cond) ++ wsX80)
set_option maxHeartbeats 4000000 in
set_option maxRecDepth 100000 in
theorem c_X8_by (l : Launch) (dC : Nat → ClassId) (dI : Nat → Nat → Nat) (ka ad : Nat → Nat) (ct : Nat → ClassId) (h0 : Nat) (st st' : CS) (r : Int32) (hf : fX8_by h0 st = some (r, st')) (sz : Nat) : Met l yX8_by wq_X8_by ({ frames := 0, cells := 0, slots := 0, locals := 0 }) (va_Pc [.ref (ad h0)] (PrC (dC, dI) ct ka ad st sz)) (va_Qi (fun r' (_ : Unit) => r' = r) (fun _ => CB (dC, dI) ct ka ad st' (aC ad st sz)) (aC ad st sz)) 0 0 (aC ad st sz) := by
  refine Met.ofW (cc := cX8_by) (maxL := 1) (ret := (some .int)) (by decide) rfl ?_
  intro p e s m args below meth c s₁ B hml hv
  obtain ⟨rfl, hsz, hw0, hK, hN, hZ, hC, hR, hL, hw1, hw2⟩ := hv
  have hx := B.exec
  have hb := B.bytes
  have hr := B.returns
  have hts := atoms_spec (ws := wq_X8_by) B.pre
  have hown : s.vm.findClass RX8 = some m.cls := findClass_of_methodNamed B.named
  have iRX8 : ∀ w ∈ u_ws RX8 TX8 12, w ∈ wq_X8_by := fun w h => List.mem_cons_of_mem _ (List.mem_append_right _ h)
  subst hsz
  have hp : Cp (dC, dI) ka ad ct (aC ad st s.heap.size) s.heap st s.heap [] := ⟨fun i a b => ⟨hw0 i a b, Or.inl ⟨i, a, b, rfl⟩⟩, va_S.rf, hw1, hw2⟩
  generalize hAe : aC ad st s.heap.size = A at hp hZ hC ⊢
  have hA : ∀ q : Nat, s.heap.size ≤ q → A q := fun q h => by rw [← hAe]; exact Or.inr h
  have hl := lv_entry ([.ref (ad h0)]) (n := 1) (Nat.le_of_ble_eq_true rfl)
  rw [lg_entry_eq]
  generalize (lg_sl ([.ref (ad h0)]) ++ List.replicate (1 - (lg_sl ([.ref (ad h0)])).length) Slot.unset).toArray = ls at hl ⊢
  have hl : lv_has ls 1 [(0, .ref (ad h0))] := hl
  unfold fX8_by at hf
  refine lv_aload_n hx hb dX8_by_0 rfl (lv_at hl 0 rfl) ?_
  obtain ⟨hk_1, hf⟩ := gd_some hf
  refine q_gi (ci := 10) (C := RX8) (T := TX8) (N := 12) (k := 11) hx hb hts iRX8 hown hK hp hk_1 (by decide) rfl rfl (by decide) rfl (Or.inl (hts (.fieldLink RX8 73 "RecordBench" "latestNumber" "I") (by decide +kernel))) (fun _ h9 => h9) dX8_by_1 ?_
  obtain ⟨e1, e2⟩ := pr_some hf
  exact W.iret (v := qI st h0 11) hx hb hr (fun t ht hW => ⟨⟨qI st h0 11, (), rfl, e1, Cp.end e2 hp ht⟩, hp.2.1.F ht⟩) hp.2.1.2.2 dX8_by_4
noncomputable def fX8_readers_17 (h0 : Nat)  : Nat → Int32 → Int32 → Int32 → CS → Option (Int32 × CS)
  | 0 => fun _ _ _ _ => none
  | n + 1 => fun l1 l2 l3 gs => pif (8 ≤ l3) (some (l2, gs)) (gd (qk gs h0 = 11) (ono (qP gs h0 2) (fun a_3 => gd (qk gs a_3 = 24) (gd (vp_in l3 (ql gs a_3)) (pif ((qP gs a_3 l3.toNatClampNeg) = none) (nam (l3 + 1) (fun v_8 => (fX8_readers_17 h0 n) l1 l2 v_8 gs)) (ono (qP gs h0 6) (fun a_9 => gd (qk gs a_9 = 10) (bnd (fX7_breaksN 12 a_9 l3 l1 l1 1 0 gs) (fun r_14 st_12 => pif (r_14 = 0) (nam (l2 + 1) (fun v_17 => nam (l3 + 1) (fun v_18 => (fX8_readers_17 h0 n) l1 v_17 v_18 st_12))) (nam (l3 + 1) (fun v_16 => (fX8_readers_17 h0 n) l1 l2 v_16 st_12)))))))))))
theorem fX8_readers_17_z (h0 : Nat)  (l1 : Int32) (l2 : Int32) (l3 : Int32) (gs : CS) : fX8_readers_17 h0 0 l1 l2 l3 gs = none := rfl
theorem fX8_readers_17_s (h0 : Nat)  (n : Nat) (l1 : Int32) (l2 : Int32) (l3 : Int32) (gs : CS) : fX8_readers_17 h0 (n + 1) l1 l2 l3 gs = pif (8 ≤ l3) (some (l2, gs)) (gd (qk gs h0 = 11) (ono (qP gs h0 2) (fun a_3 => gd (qk gs a_3 = 24) (gd (vp_in l3 (ql gs a_3)) (pif ((qP gs a_3 l3.toNatClampNeg) = none) (nam (l3 + 1) (fun v_8 => (fX8_readers_17 h0 n) l1 l2 v_8 gs)) (ono (qP gs h0 6) (fun a_9 => gd (qk gs a_9 = 10) (bnd (fX7_breaksN 12 a_9 l3 l1 l1 1 0 gs) (fun r_14 st_12 => pif (r_14 = 0) (nam (l2 + 1) (fun v_17 => nam (l3 + 1) (fun v_18 => (fX8_readers_17 h0 n) l1 v_17 v_18 st_12))) (nam (l3 + 1) (fun v_16 => (fX8_readers_17 h0 n) l1 l2 v_16 st_12))))))))))) := rfl
set_option maxHeartbeats 1000000 in
theorem mo_X8_readers_17 (h0 : Nat)   : ∀ (n : Nat) (l1 : Int32) (l2 : Int32) (l3 : Int32) (gs : CS) (r : Int32) (st' : CS), fX8_readers_17 h0 n l1 l2 l3 gs = some (r, st') → Ke gs st' := by
  intro n
  induction n with
  | zero =>
    intro l1 l2 l3 gs r st' hf
    rw [fX8_readers_17_z] at hf
    cases hf
  | succ n ih =>
    intro l1 l2 l3 gs r st' hf
    rw [fX8_readers_17_s] at hf
    have hm : Ke gs gs := Ke.rf
    rcases pif_or hf with ⟨c_1, hf⟩ | ⟨c_1, hf⟩
    · obtain ⟨e1, e2⟩ := pr_some hf
      exact e2 ▸ hm
    · obtain ⟨hk_2, hf⟩ := gd_some hf
      obtain ⟨a_3, ha_4, hf⟩ := ono_some hf
      obtain ⟨hk_5, hf⟩ := gd_some hf
      obtain ⟨g_6, hf⟩ := gd_some hf
      rcases pif_or hf with ⟨c_7, hf⟩ | ⟨c_7, hf⟩
      · obtain ⟨v_8, ev_8, hf⟩ := nam_some hf
        exact hm.tr (ih l1 l2 v_8 gs _ _ hf)
      · obtain ⟨a_9, ha_10, hf⟩ := ono_some hf
        obtain ⟨hk_11, hf⟩ := gd_some hf
        obtain ⟨r_14, st_12, hc_13, hf⟩ := bnd_some hf
        have hm := hm.tr (mo_X7_breaksN 12 a_9 l3 l1 l1 1 0 _ _ _ hc_13)
        rcases pif_or hf with ⟨c_15, hf⟩ | ⟨c_15, hf⟩
        · obtain ⟨v_17, ev_17, hf⟩ := nam_some hf
          obtain ⟨v_18, ev_18, hf⟩ := nam_some hf
          exact hm.tr (ih l1 v_17 v_18 st_12 _ _ hf)
        · obtain ⟨v_16, ev_16, hf⟩ := nam_some hf
          exact hm.tr (ih l1 l2 v_16 st_12 _ _ hf)
noncomputable def fX8_readers (h0 : Nat) (p0 : Int32) (st : CS) : Option (Int32 × CS) := gd (qk st h0 = 11) (bnd (fX8_makeOf (qP st h0 2) p0 st) (fun r_22 st_20 => pif (r_22 = none) (some (((-1) : Int32), st_20)) (fX8_readers_17 h0 fuel p0 0 0 st_20)))
set_option maxHeartbeats 1000000 in
theorem mo_X8_readers (h0 : Nat) (p0 : Int32) (st : CS) (r : Int32) (st' : CS) (hf : fX8_readers h0 p0 st = some (r, st')) : Ke st st' := by
  unfold fX8_readers at hf
  have hm : Ke st st := Ke.rf
  obtain ⟨hk_19, hf⟩ := gd_some hf
  obtain ⟨r_22, st_20, hc_21, hf⟩ := bnd_some hf
  have hm := hm.tr (mo_X8_makeOf (qP st h0 2) p0 _ _ _ hc_21)
  rcases pif_or hf with ⟨c_23, hf⟩ | ⟨c_23, hf⟩
  · obtain ⟨e1, e2⟩ := pr_some hf
    exact e2 ▸ hm
  · exact hm.tr (mo_X8_readers_17 h0 fuel p0 0 0 st_20 _ _ hf)
def wq_X8_readers : List Cond := .code yX8_readers cX8_readers 4 (some .int) :: (([.fieldLink RX8 24 "RecordBench" "makes" "[LRecordBench$Make;", .fieldLink RX8 56 "RecordBench" "walks" "LRecordBench$Walks;", .instanceMethod yX7_breaks, .selects RX7 yX7_breaks yX7_breaks, .initialized RX7, .methodLink RX8 136 yX8_makeOf, .static yX8_makeOf, .initialized RX8, .code yX7_breaks cX7_breaks 11 (some .boolean), .fieldLink RX7 9 "RecordBench$Walks" "makes" "[LRecordBench$Make;", .fieldLink RX7 15 "RecordBench$Walks" "seen" "[I", .methodLink RX7 23 yX7_firstNumber, .instanceMethod yX7_firstNumber, .selects RX7 yX7_firstNumber yX7_firstNumber, .code yX7_firstNumber cX7_firstNumber 7 (some .int), .methodLink RX7 27 yX7_whyBy, .instanceMethod yX7_whyBy, .selects RX7 yX7_whyBy yX7_whyBy, .code yX7_whyBy cX7_whyBy 10 (some .int), .methodLink RX7 50 yX7_isCrowded, .static yX7_isCrowded, .methodLink RX7 58 yX7_recBreaks, .instanceMethod yX7_recBreaks, .selects RX7 yX7_recBreaks yX7_recBreaks, .methodLink RX7 31 yX1_knownAt, .instanceMethod yX1_knownAt, .selects RX1 yX1_knownAt yX1_knownAt, .initialized RX1, .methodLink RX7 37 yX7_isOtherSort, .static yX7_isOtherSort, .methodLink RX7 41 yX7_isNarrower, .static yX7_isNarrower, .methodLink RX7 44 yX0_hasOtherDefault, .instanceMethod yX0_hasOtherDefault, .selects RX0 yX0_hasOtherDefault yX0_hasOtherDefault, .initialized RX0, .code yX7_isCrowded cX7_isCrowded 7 (some .boolean), .methodLink RX7 69 yX0_sharesGroup, .instanceMethod yX0_sharesGroup, .selects RX0 yX0_sharesGroup yX0_sharesGroup, .code yX1_knownAt cX1_knownAt 3 (some (.object "RecordBench$Field")), .methodLink RX1 21 yX1_fieldAt, .instanceMethod yX1_fieldAt, .selects RX1 yX1_fieldAt yX1_fieldAt, .code yX1_fieldAt cX1_fieldAt 2 (some (.object "RecordBench$Field")), .fieldLink RX1 11 "RecordBench$Make" "fields" "[LRecordBench$Field;", .code yX0_sharesGroup cX0_sharesGroup 2 (some .boolean), .fieldLink RX0 18 "RecordBench$Field" "group" "I", .code yX7_recBreaks cX7_recBreaks 8 (some .boolean), .methodLink RX7 75 yX7_breaks, .code yX7_isOtherSort cX7_isOtherSort 2 (some .boolean), .methodLink RX7 62 yX0_isOtherSort, .instanceMethod yX0_isOtherSort, .selects RX0 yX0_isOtherSort yX0_isOtherSort, .code yX0_isOtherSort cX0_isOtherSort 2 (some .boolean), .fieldLink RX0 15 "RecordBench$Field" "kind" "I", .methodLink RX0 51 yX0_isNumber, .instanceMethod yX0_isNumber, .selects RX0 yX0_isNumber yX0_isNumber, .code yX0_isNumber cX0_isNumber 1 (some .boolean), .code yX7_isNarrower cX7_isNarrower 2 (some .boolean), .methodLink RX7 64 yX0_isNarrower, .instanceMethod yX0_isNarrower, .selects RX0 yX0_isNarrower yX0_isNarrower, .code yX0_isNarrower cX0_isNarrower 2 (some .boolean), .code yX0_hasOtherDefault cX0_hasOtherDefault 2 (some .boolean), .fieldLink RX0 33 "RecordBench$Field" "value" "J", .fieldLink RX0 30 "RecordBench$Field" "text" "Ljava/lang/String;", .methodLink RX0 55 yJ0_equals_9ea2d, .instanceMethod yJ0_equals_9ea2d, .selects RJ0 yJ0_equals_9ea2d yJ0_equals_9ea2d, .initialized RJ0, .code yJ0_equals_9ea2d cJ0_equals_9ea2d 3 (some .boolean), .classLink RJ0 10 "java/lang/String", .fieldLink RJ0 38 "java/lang/String" "COMPACT_STRINGS" "Z", .fieldLink RJ0 15 "java/lang/String" "coder" "B", .fieldLink RJ0 9 "java/lang/String" "value" "[B", .methodLink RJ0 541 yJ1_equals_b5fdf, .static yJ1_equals_b5fdf, .initialized RJ1, .code yJ1_equals_b5fdf cJ1_equals_b5fdf 3 (some .boolean), .code yX8_makeOf cX8_makeOf 2 (some (.object "RecordBench$Make"))] : List Cond) ++ wsX80 ++ wsX70 ++ wsX00 ++ wsX10 ++ wsJ00)
theorem gs_wq_X8_readers_wsX70 : GoodIn wq_X8_readers wsX70 := fun w h => ⟨List.mem_cons_of_mem _ (List.mem_append_left _ (List.mem_append_left _ (List.mem_append_left _ (List.mem_append_right _ h)))), (gt_wsX70 w h).2⟩
theorem gs_wq_X8_readers_wsX00 : GoodIn wq_X8_readers wsX00 := fun w h => ⟨List.mem_cons_of_mem _ (List.mem_append_left _ (List.mem_append_left _ (List.mem_append_right _ h))), (gt_wsX00 w h).2⟩
theorem gs_wq_X8_readers_wsX10 : GoodIn wq_X8_readers wsX10 := fun w h => ⟨List.mem_cons_of_mem _ (List.mem_append_left _ (List.mem_append_right _ h)), (gt_wsX10 w h).2⟩
theorem gs_wq_X8_readers_wsJ00 : GoodIn wq_X8_readers wsJ00 := fun w h => ⟨List.mem_cons_of_mem _ (List.mem_append_right _ h), (gt_wsJ00 w h).2⟩
set_option maxRecDepth 20000 in
theorem gq_X8_readers_X7_breaks_209 : GoodIn wq_X8_readers (wq_X7_breaks) := (goodIn_ca (goodIn_ca (goodIn_ca (goodIn_ca (goodIn_r _ [9, 10, 11, 12, 13, 14, 5, 7, 8, 15, 16, 17, 18, 19, 20, 21, 22, 23, 24, 25, 26, 27, 28, 29, 30, 31, 32, 33, 34, 35, 36, 37, 38, 39, 40, 41, 42, 43, 44, 45, 46, 47, 48, 49, 50, 3, 4, 51, 52, 53, 54, 55, 56, 57, 58, 59, 60, 61, 62, 63, 64, 65, 66, 67, 68, 69, 70, 71, 72, 73, 74, 75, 76, 77, 78, 79, 80, 81, 82] rfl rfl) gs_wq_X8_readers_wsX70) gs_wq_X8_readers_wsX00) gs_wq_X8_readers_wsX10) gs_wq_X8_readers_wsJ00)
set_option maxRecDepth 20000 in
theorem gq_X8_readers_X8_makeOf_136 : GoodIn wq_X8_readers (va_wsS RX8 136 yX8_makeOf wq_X8_makeOf) := goodIn_app (goodIn_r _ [6, 7, 8] rfl rfl) (goodIn_r _ [82] rfl rfl)
set_option maxHeartbeats 4000000 in
set_option maxRecDepth 100000 in
theorem c_X8_readers (l : Launch) (dC : Nat → ClassId) (dI : Nat → Nat → Nat) (ka ad : Nat → Nat) (ct : Nat → ClassId) (h0 : Nat) (p0 : Int32) (st st' : CS) (r : Int32) (hf : fX8_readers h0 p0 st = some (r, st')) (sz : Nat) : Met l yX8_readers wq_X8_readers ({ frames := 61, cells := 0, slots := 0, locals := 1762 }) (va_Pc [.ref (ad h0), .int p0] (PrC (dC, dI) ct ka ad st sz)) (va_Qi (fun r' (_ : Unit) => r' = r) (fun _ => CB (dC, dI) ct ka ad st' (aC ad st sz)) (aC ad st sz)) 0 0 (aC ad st sz) := by
  refine Met.ofW (cc := cX8_readers) (maxL := 4) (ret := (some .int)) (by decide) rfl ?_
  intro p e s m args below meth c s₁ B hml hv
  obtain ⟨rfl, hsz, hw0, hK, hN, hZ, hC, hR, hL, hw1, hw2⟩ := hv
  have hx := B.exec
  have hb := B.bytes
  have hr := B.returns
  have hts := atoms_spec (ws := wq_X8_readers) B.pre
  have hown : s.vm.findClass RX8 = some m.cls := findClass_of_methodNamed B.named
  have iRX8 : ∀ w ∈ u_ws RX8 TX8 12, w ∈ wq_X8_readers := fun w h => List.mem_cons_of_mem _ (List.mem_append_left _ (List.mem_append_left _ (List.mem_append_left _ (List.mem_append_left _ (List.mem_append_right _ h)))))
  subst hsz
  have hp : Cp (dC, dI) ka ad ct (aC ad st s.heap.size) s.heap st s.heap [] := ⟨fun i a b => ⟨hw0 i a b, Or.inl ⟨i, a, b, rfl⟩⟩, va_S.rf, hw1, hw2⟩
  generalize hAe : aC ad st s.heap.size = A at hp hZ hC ⊢
  have hA : ∀ q : Nat, s.heap.size ≤ q → A q := fun q h => by rw [← hAe]; exact Or.inr h
  have hl := lv_entry ([.ref (ad h0), .int p0]) (n := 4) (Nat.le_of_ble_eq_true rfl)
  rw [lg_entry_eq]
  generalize (lg_sl ([.ref (ad h0), .int p0]) ++ List.replicate (4 - (lg_sl ([.ref (ad h0), .int p0])).length) Slot.unset).toArray = ls at hl ⊢
  have hl : lv_has ls 4 [(0, .ref (ad h0)), (1, .int p0)] := hl
  refine W_lp (fun n17 (u : Int32 × Int32 × Int32 × CS) H locs ls => match u with | (l1, l2, l3, gs) => fX8_readers_17 h0 n17 l1 l2 l3 gs = some (r, st') ∧ Cp (dC, dI) ka ad ct A s.heap gs H locs ∧ lv_has ls 4 [(0, .ref (ad h0)), (1, .int l1), (2, .int l2), (3, .int l3)]) (fun (u : Int32 × Int32 × Int32 × CS) ls => match u with | (l1, l2, l3, gs) => F0 m 17 ls []) ?_ ?_ (fun J17 => ?_)
  · intro u H locs ls hu
    obtain ⟨l1, l2, l3, gs⟩ := u
    obtain ⟨hf, hp, hl⟩ := hu
    rw [fX8_readers_17_z] at hf
    cases hf
  · intro n17 ih17 u H locs ls hu
    obtain ⟨l1, l2, l3, gs⟩ := u
    obtain ⟨hf, hp, hl⟩ := hu
    show W p l e _ s m _ below meth c _ _ _ _ _ (F0 m 17 ls [])
    rw [fX8_readers_17_s] at hf
    refine lv_iload_n hx hb dX8_readers_17 rfl (lv_at hl 3 rfl) ?_
    refine lv_bipush (v := 8) hx hb dX8_readers_18 (by decide) ?_
    refine lv_icmp_ge (tgt := 56) hx hb dX8_readers_20 (by decide) (fun c_1 => ?_) (fun c_1 => ?_)
    · have hf := pif_t c_1 hf
      refine lv_iload_n hx hb dX8_readers_56 rfl (lv_at hl 2 rfl) ?_
      obtain ⟨e1, e2⟩ := pr_some hf
      exact W.iret (v := l2) hx hb hr (fun t ht hW => ⟨⟨l2, (), rfl, e1, Cp.end e2 hp ht⟩, hp.2.1.F ht⟩) hp.2.1.2.2 dX8_readers_57
    · have hf := pif_f c_1 hf
      refine lv_aload_n hx hb dX8_readers_23 rfl (lv_at hl 0 rfl) ?_
      obtain ⟨hk_2, hf⟩ := gd_some hf
      refine q_gp (ci := 10) (C := RX8) (T := TX8) (N := 12) (k := 2) hx hb hts iRX8 hown hK hp hk_2 (by decide) rfl rfl (by decide) rfl (Or.inl (hts (.fieldLink RX8 24 "RecordBench" "makes" "[LRecordBench$Make;") (by decide +kernel))) (fun _ h9 => h9) dX8_readers_24 ?_
      refine lv_iload_n hx hb dX8_readers_27 rfl (lv_at hl 3 rfl) ?_
      obtain ⟨a_3, ha_4, hf⟩ := ono_some hf
      refine o_at1 ha_4 ?_
      obtain ⟨hk_5, hf⟩ := gd_some hf
      obtain ⟨g_6, hf⟩ := gd_some hf
      refine q_aq (t0 := 3) hx hb hK hp hk_5 (by decide) rfl g_6 dX8_readers_28 ?_
      refine o_ifnull (tgt := 50) hx hb dX8_readers_29 (by decide) (fun c_7 => ?_) (fun c_7 => ?_)
      · have hf := pif_t c_7 hf
        obtain ⟨v_8, ev_8, hf⟩ := nam_some hf
        refine lv_iinc (v := v_8) (lv' := [(3, .int v_8), (0, .ref (ad h0)), (1, .int l1), (2, .int l2)]) hx hb dX8_readers_50 hl (k := 3) rfl ev_8.symm (by decide) rfl (fun ls hl => ?_)
        refine lv_goto (tgt := 17) hx hb dX8_readers_53 (by decide) ?_
        exact ih17 (l1, l2, v_8, gs) _ _ _ ⟨hf, hp, (lv_sub hl [1, 2, 3, 0] rfl)⟩
      · have hf := pif_f c_7 hf
        refine lv_aload_n hx hb dX8_readers_32 rfl (lv_at hl 0 rfl) ?_
        refine q_gp (ci := 10) (C := RX8) (T := TX8) (N := 12) (k := 6) hx hb hts iRX8 hown hK hp hk_2 (by decide) rfl rfl (by decide) rfl (Or.inl (hts (.fieldLink RX8 56 "RecordBench" "walks" "LRecordBench$Walks;") (by decide +kernel))) (fun _ h9 => h9) dX8_readers_33 ?_
        refine lv_iload_n hx hb dX8_readers_36 rfl (lv_at hl 3 rfl) ?_
        refine lv_iload_n hx hb dX8_readers_37 rfl (lv_at hl 1 rfl) ?_
        refine lv_iload_n hx hb dX8_readers_38 rfl (lv_at hl 1 rfl) ?_
        refine lv_iconst (v := 1) hx hb dX8_readers_39 (by decide) ?_
        refine lv_iconst (v := 0) hx hb dX8_readers_40 (by decide) ?_
        obtain ⟨a_9, ha_10, hf⟩ := ono_some hf
        refine o_at5 ha_10 ?_
        obtain ⟨hk_11, hf⟩ := gd_some hf
        obtain ⟨r_14, st_12, hc_13, hf⟩ := bnd_some hf
        refine q_ci hp hA (va_runVN (As := [.int l3, .int l1, .int l1, .int 1, .int 0]) (rest := []) ⟨hx, hb, hml, hown, hts⟩ (c_X7_breaksN l dC dI ka ad ct 12 a_9 l3 l1 l1 1 0 _ _ _ hc_13 _) ⟨va_cnB 5 hts gq_X8_readers_X7_breaks_209 rfl rfl rfl (hN.1 (.methodLinkNest RX8 209 yX7_breaks "RecordBench") (by decide +kernel)) (hts (.initialized RX7) (by decide +kernel)) (by decide +kernel) ⟨Nat.le_of_ble_eq_true rfl, Nat.le_of_ble_eq_true rfl⟩, (hts (.instanceMethod yX7_breaks) (by decide +kernel)), (hts (.selects RX7 yX7_breaks yX7_breaks) (by decide +kernel))⟩ ⟨PrC.blind _, q_rv9 hK hp hC hk_11, q_pre hp hK hN hZ hC hR hL hA⟩ rfl rfl hl.1 rfl (lv_room (Nat.le_of_ble_eq_true rfl)) dX8_readers_41 ⟨Nat.le_of_ble_eq_true rfl, Nat.le_of_ble_eq_true rfl⟩) (fun H locs hp => ?_)
        have hk_2 : qk st_12 h0 = 11 := by rw [(mo_X7_breaksN 12 a_9 l3 l1 l1 1 0 _ _ _ hc_13).2.2.1]; exact hk_2
        have hk_5 : qk st_12 a_3 = 24 := by rw [(mo_X7_breaksN 12 a_9 l3 l1 l1 1 0 _ _ _ hc_13).2.2.1]; exact hk_5
        have hk_11 : qk st_12 a_9 = 10 := by rw [(mo_X7_breaksN 12 a_9 l3 l1 l1 1 0 _ _ _ hc_13).2.2.1]; exact hk_11
        refine lv_if_ne (tgt := 50) hx hb dX8_readers_44 (by decide) (fun c_15 => ?_) (fun c_15 => ?_)
        · have hf := pif_f c_15 hf
          obtain ⟨v_16, ev_16, hf⟩ := nam_some hf
          refine lv_iinc (v := v_16) (lv' := [(3, .int v_16), (0, .ref (ad h0)), (1, .int l1), (2, .int l2)]) hx hb dX8_readers_50 hl (k := 3) rfl ev_16.symm (by decide) rfl (fun ls hl => ?_)
          refine lv_goto (tgt := 17) hx hb dX8_readers_53 (by decide) ?_
          exact ih17 (l1, l2, v_16, st_12) _ _ _ ⟨hf, hp, (lv_sub hl [1, 2, 3, 0] rfl)⟩
        · have hf := pif_t c_15 hf
          obtain ⟨v_17, ev_17, hf⟩ := nam_some hf
          refine lv_iinc (v := v_17) (lv' := [(2, .int v_17), (0, .ref (ad h0)), (1, .int l1), (3, .int l3)]) hx hb dX8_readers_47 hl (k := 2) rfl ev_17.symm (by decide) rfl (fun ls hl => ?_)
          obtain ⟨v_18, ev_18, hf⟩ := nam_some hf
          refine lv_iinc (v := v_18) (lv' := [(3, .int v_18), (2, .int v_17), (0, .ref (ad h0)), (1, .int l1)]) hx hb dX8_readers_50 hl (k := 3) rfl ev_18.symm (by decide) rfl (fun ls hl => ?_)
          refine lv_goto (tgt := 17) hx hb dX8_readers_53 (by decide) ?_
          exact ih17 (l1, v_17, v_18, st_12) _ _ _ ⟨hf, hp, (lv_sub hl [2, 3, 1, 0] rfl)⟩
  unfold fX8_readers at hf
  refine lv_aload_n hx hb dX8_readers_0 rfl (lv_at hl 0 rfl) ?_
  obtain ⟨hk_19, hf⟩ := gd_some hf
  refine q_gp (ci := 10) (C := RX8) (T := TX8) (N := 12) (k := 2) hx hb hts iRX8 hown hK hp hk_19 (by decide) rfl rfl (by decide) rfl (Or.inl (hts (.fieldLink RX8 24 "RecordBench" "makes" "[LRecordBench$Make;") (by decide +kernel))) (fun _ h9 => h9) dX8_readers_1 ?_
  refine lv_iload_n hx hb dX8_readers_4 rfl (lv_at hl 1 rfl) ?_
  obtain ⟨r_22, st_20, hc_21, hf⟩ := bnd_some hf
  refine q_cq hp hA (va_runS (As := [va_rf (Option.map ad (qP st h0 2)), .int p0]) (rest := []) ⟨hx, hb, hml, hown, hts⟩ (c_X8_makeOf l dC dI ka ad ct (qP st h0 2) p0 _ _ _ hc_21 _) (va_cwS 2 hts gq_X8_readers_X8_makeOf_136 rfl rfl rfl (by decide +kernel) ⟨Nat.le_of_ble_eq_true rfl, Nat.le_of_ble_eq_true rfl⟩) ⟨PrC.blind _, q_pre hp hK hN hZ hC hR hL hA⟩ rfl rfl hl.1 rfl (lv_room (Nat.le_of_ble_eq_true rfl)) dX8_readers_5 ⟨Nat.le_of_ble_eq_true rfl, Nat.le_of_ble_eq_true rfl⟩) (fun H locs hp => ?_)
  have hk_19 : qk st_20 h0 = 11 := by rw [(mo_X8_makeOf (qP st h0 2) p0 _ _ _ hc_21).2.2.1]; exact hk_19
  refine o_ifnonnull (tgt := 13) hx hb dX8_readers_8 (by decide) (fun c_23 => ?_) (fun c_23 => ?_)
  · have hf := pif_f c_23 hf
    refine lv_iconst (v := 0) hx hb dX8_readers_13 (by decide) ?_
    refine lv_istore_n (i := 2) (lv' := [(2, .int 0), (0, .ref (ad h0)), (1, .int p0)]) hx hb dX8_readers_14 rfl hl (by decide) rfl (fun ls hl => ?_)
    refine lv_iconst (v := 0) hx hb dX8_readers_15 (by decide) ?_
    refine lv_istore_n (i := 3) (lv' := [(3, .int 0), (2, .int 0), (0, .ref (ad h0)), (1, .int p0)]) hx hb dX8_readers_16 rfl hl (by decide) rfl (fun ls hl => ?_)
    exact J17 fuel (p0, 0, 0, st_20) _ _ _ ⟨hf, hp, (lv_sub hl [2, 3, 1, 0] rfl)⟩
  · have hf := pif_t c_23 hf
    refine lv_iconst (v := (-1)) hx hb dX8_readers_11 (by decide) ?_
    obtain ⟨e1, e2⟩ := pr_some hf
    exact W.iret (v := (-1)) hx hb hr (fun t ht hW => ⟨⟨(-1), (), rfl, e1, Cp.end e2 hp ht⟩, hp.2.1.F ht⟩) hp.2.1.2.2 dX8_readers_12
