theorem dX8_at_0 : decode cX8_at 0 = .ok (.aload_n 0, 1) := by decide +kernel
theorem dX8_at_1 : decode cX8_at 1 = .ok (.iload_n 1, 1) := by decide +kernel
theorem dX8_at_10 : decode cX8_at 10 = .ok (.iconst (-1), 1) := by decide +kernel
theorem dX8_at_11 : decode cX8_at 11 = .ok (.goto 8, 3) := by decide +kernel
theorem dX8_at_14 : decode cX8_at 14 = .ok (.aload_n 3, 1) := by decide +kernel
theorem dX8_at_15 : decode cX8_at 15 = .ok (.iload_n 2, 1) := by decide +kernel
theorem dX8_at_16 : decode cX8_at 16 = .ok (.invokevirtual 195, 3) := by decide +kernel
theorem dX8_at_19 : decode cX8_at 19 = .ok (.ireturn, 1) := by decide +kernel
theorem dX8_at_2 : decode cX8_at 2 = .ok (.invokevirtual 128, 3) := by decide +kernel
theorem dX8_at_5 : decode cX8_at 5 = .ok (.astore_n 3, 1) := by decide +kernel
theorem dX8_at_6 : decode cX8_at 6 = .ok (.aload_n 3, 1) := by decide +kernel
theorem dX8_at_7 : decode cX8_at 7 = .ok (.ifnonnull 7, 3) := by decide +kernel
theorem dX8_by_0 : decode cX8_by 0 = .ok (.aload_n 0, 1) := by decide +kernel
theorem dX8_by_1 : decode cX8_by 1 = .ok (.getfield 73, 3) := by decide +kernel
theorem dX8_by_4 : decode cX8_by 4 = .ok (.ireturn, 1) := by decide +kernel
theorem dX8_clear_0 : decode cX8_clear 0 = .ok (.aload_n 0, 1) := by decide +kernel
theorem dX8_clear_1 : decode cX8_clear 1 = .ok (.iload_n 1, 1) := by decide +kernel
theorem dX8_clear_10 : decode cX8_clear 10 = .ok (.iconst (-1), 1) := by decide +kernel
theorem dX8_clear_11 : decode cX8_clear 11 = .ok (.ireturn, 1) := by decide +kernel
theorem dX8_clear_12 : decode cX8_clear 12 = .ok (.aload_n 2, 1) := by decide +kernel
theorem dX8_clear_13 : decode cX8_clear 13 = .ok (.invokevirtual 76, 3) := by decide +kernel
theorem dX8_clear_16 : decode cX8_clear 16 = .ok (.istore_n 3, 1) := by decide +kernel
theorem dX8_clear_17 : decode cX8_clear 17 = .ok (.aload_n 2, 1) := by decide +kernel
theorem dX8_clear_18 : decode cX8_clear 18 = .ok (.iconst 0, 1) := by decide +kernel
theorem dX8_clear_19 : decode cX8_clear 19 = .ok (.invokevirtual 83, 3) := by decide +kernel
theorem dX8_clear_2 : decode cX8_clear 2 = .ok (.invokevirtual 128, 3) := by decide +kernel
theorem dX8_clear_22 : decode cX8_clear 22 = .ok (.pop, 1) := by decide +kernel
theorem dX8_clear_23 : decode cX8_clear 23 = .ok (.iload_n 3, 1) := by decide +kernel
theorem dX8_clear_24 : decode cX8_clear 24 = .ok (.ireturn, 1) := by decide +kernel
theorem dX8_clear_5 : decode cX8_clear 5 = .ok (.astore_n 2, 1) := by decide +kernel
theorem dX8_clear_6 : decode cX8_clear 6 = .ok (.aload_n 2, 1) := by decide +kernel
theorem dX8_clear_7 : decode cX8_clear 7 = .ok (.ifnonnull 5, 3) := by decide +kernel
theorem dX8_drop_0 : decode cX8_drop 0 = .ok (.aload_n 0, 1) := by decide +kernel
theorem dX8_drop_1 : decode cX8_drop 1 = .ok (.iload_n 1, 1) := by decide +kernel
theorem dX8_drop_11 : decode cX8_drop 11 = .ok (.iload_n 2, 1) := by decide +kernel
theorem dX8_drop_12 : decode cX8_drop 12 = .ok (.invokestatic 136, 3) := by decide +kernel
theorem dX8_drop_15 : decode cX8_drop 15 = .ok (.astore 5, 2) := by decide +kernel
theorem dX8_drop_17 : decode cX8_drop 17 = .ok (.aload_n 0, 1) := by decide +kernel
theorem dX8_drop_18 : decode cX8_drop 18 = .ok (.iload_n 2, 1) := by decide +kernel
theorem dX8_drop_19 : decode cX8_drop 19 = .ok (.iload_n 3, 1) := by decide +kernel
theorem dX8_drop_2 : decode cX8_drop 2 = .ok (.invokevirtual 128, 3) := by decide +kernel
theorem dX8_drop_20 : decode cX8_drop 20 = .ok (.invokevirtual 100, 3) := by decide +kernel
theorem dX8_drop_23 : decode cX8_drop 23 = .ok (.astore 6, 2) := by decide +kernel
theorem dX8_drop_25 : decode cX8_drop 25 = .ok (.aload 4, 2) := by decide +kernel
theorem dX8_drop_27 : decode cX8_drop 27 = .ok (.ifnull 21, 3) := by decide +kernel
theorem dX8_drop_30 : decode cX8_drop 30 = .ok (.aload 5, 2) := by decide +kernel
theorem dX8_drop_32 : decode cX8_drop 32 = .ok (.ifnull 16, 3) := by decide +kernel
theorem dX8_drop_48 : decode cX8_drop 48 = .ok (.iconst (-1), 1) := by decide +kernel
theorem dX8_drop_49 : decode cX8_drop 49 = .ok (.ireturn, 1) := by decide +kernel
theorem dX8_drop_5 : decode cX8_drop 5 = .ok (.astore 4, 2) := by decide +kernel
theorem dX8_drop_7 : decode cX8_drop 7 = .ok (.aload_n 0, 1) := by decide +kernel
theorem dX8_drop_8 : decode cX8_drop 8 = .ok (.getfield 24, 3) := by decide +kernel
theorem dX8_end_0 : decode cX8_end 0 = .ok (.aload_n 0, 1) := by decide +kernel
theorem dX8_end_1 : decode cX8_end 1 = .ok (.getfield 14, 3) := by decide +kernel
theorem dX8_end_4 : decode cX8_end 4 = .ok (.iload_n 1, 1) := by decide +kernel
theorem dX8_end_5 : decode cX8_end 5 = .ok (.invokevirtual 83, 3) := by decide +kernel
theorem dX8_end_8 : decode cX8_end 8 = .ok (.ireturn, 1) := by decide +kernel
theorem dX8_fault_0 : decode cX8_fault 0 = .ok (.iload_n 1, 1) := by decide +kernel
theorem dX8_fault_1 : decode cX8_fault 1 = .ok (.ifCond .ne 8, 3) := by decide +kernel
theorem dX8_fault_10 : decode cX8_fault 10 = .ok (.iconst 1, 1) := by decide +kernel
theorem dX8_fault_11 : decode cX8_fault 11 = .ok (.if_icmp .ne 10, 3) := by decide +kernel
theorem dX8_fault_14 : decode cX8_fault 14 = .ok (.aload_n 0, 1) := by decide +kernel
theorem dX8_fault_15 : decode cX8_fault 15 = .ok (.getfield 70, 3) := by decide +kernel
theorem dX8_fault_18 : decode cX8_fault 18 = .ok (.goto 4, 3) := by decide +kernel
theorem dX8_fault_21 : decode cX8_fault 21 = .ok (.iconst (-1), 1) := by decide +kernel
theorem dX8_fault_22 : decode cX8_fault 22 = .ok (.ireturn, 1) := by decide +kernel
theorem dX8_fault_4 : decode cX8_fault 4 = .ok (.aload_n 0, 1) := by decide +kernel
theorem dX8_fault_5 : decode cX8_fault 5 = .ok (.getfield 66, 3) := by decide +kernel
theorem dX8_fault_8 : decode cX8_fault 8 = .ok (.ireturn, 1) := by decide +kernel
theorem dX8_fault_9 : decode cX8_fault 9 = .ok (.iload_n 1, 1) := by decide +kernel
theorem dX8_feed_0 : decode cX8_feed 0 = .ok (.aload_n 0, 1) := by decide +kernel
theorem dX8_feed_1 : decode cX8_feed 1 = .ok (.getfield 14, 3) := by decide +kernel
theorem dX8_feed_10 : decode cX8_feed 10 = .ok (.sipush 400, 3) := by decide +kernel
theorem dX8_feed_13 : decode cX8_feed 13 = .ok (.if_icmp .le 5, 3) := by decide +kernel
theorem dX8_feed_18 : decode cX8_feed 18 = .ok (.aload_n 0, 1) := by decide +kernel
theorem dX8_feed_19 : decode cX8_feed 19 = .ok (.getfield 14, 3) := by decide +kernel
theorem dX8_feed_22 : decode cX8_feed 22 = .ok (.iload_n 1, 1) := by decide +kernel
theorem dX8_feed_23 : decode cX8_feed 23 = .ok (.invokevirtual 80, 3) := by decide +kernel
theorem dX8_feed_26 : decode cX8_feed 26 = .ok (.aload_n 0, 1) := by decide +kernel
theorem dX8_feed_27 : decode cX8_feed 27 = .ok (.getfield 14, 3) := by decide +kernel
theorem dX8_feed_30 : decode cX8_feed 30 = .ok (.iload_n 2, 1) := by decide +kernel
theorem dX8_feed_31 : decode cX8_feed 31 = .ok (.invokevirtual 80, 3) := by decide +kernel
theorem dX8_feed_34 : decode cX8_feed 34 = .ok (.aload_n 0, 1) := by decide +kernel
theorem dX8_feed_35 : decode cX8_feed 35 = .ok (.getfield 14, 3) := by decide +kernel
theorem dX8_feed_38 : decode cX8_feed 38 = .ok (.iload_n 3, 1) := by decide +kernel
theorem dX8_feed_39 : decode cX8_feed 39 = .ok (.invokevirtual 80, 3) := by decide +kernel
theorem dX8_feed_4 : decode cX8_feed 4 = .ok (.invokevirtual 76, 3) := by decide +kernel
theorem dX8_feed_42 : decode cX8_feed 42 = .ok (.aload_n 0, 1) := by decide +kernel
theorem dX8_feed_43 : decode cX8_feed 43 = .ok (.getfield 14, 3) := by decide +kernel
theorem dX8_feed_46 : decode cX8_feed 46 = .ok (.iload 4, 2) := by decide +kernel
theorem dX8_feed_48 : decode cX8_feed 48 = .ok (.invokevirtual 80, 3) := by decide +kernel
theorem dX8_feed_51 : decode cX8_feed 51 = .ok (.aload_n 0, 1) := by decide +kernel
theorem dX8_feed_52 : decode cX8_feed 52 = .ok (.getfield 14, 3) := by decide +kernel
theorem dX8_feed_55 : decode cX8_feed 55 = .ok (.iload 5, 2) := by decide +kernel
theorem dX8_feed_57 : decode cX8_feed 57 = .ok (.invokevirtual 80, 3) := by decide +kernel
theorem dX8_feed_60 : decode cX8_feed 60 = .ok (.aload_n 0, 1) := by decide +kernel
theorem dX8_feed_61 : decode cX8_feed 61 = .ok (.getfield 14, 3) := by decide +kernel
theorem dX8_feed_64 : decode cX8_feed 64 = .ok (.invokevirtual 76, 3) := by decide +kernel
theorem dX8_feed_67 : decode cX8_feed 67 = .ok (.ireturn, 1) := by decide +kernel
theorem dX8_feed_7 : decode cX8_feed 7 = .ok (.bipush 20, 2) := by decide +kernel
theorem dX8_feed_9 : decode cX8_feed 9 = .ok (.iadd, 1) := by decide +kernel
theorem dX8_fieldOf_0 : decode cX8_fieldOf 0 = .ok (.aload_n 0, 1) := by decide +kernel
theorem dX8_fieldOf_1 : decode cX8_fieldOf 1 = .ok (.getfield 24, 3) := by decide +kernel
theorem dX8_fieldOf_10 : decode cX8_fieldOf 10 = .ok (.ifnonnull 7, 3) := by decide +kernel
theorem dX8_fieldOf_13 : decode cX8_fieldOf 13 = .ok (.aconst_null, 1) := by decide +kernel
theorem dX8_fieldOf_14 : decode cX8_fieldOf 14 = .ok (.goto 8, 3) := by decide +kernel
theorem dX8_fieldOf_22 : decode cX8_fieldOf 22 = .ok (.areturn, 1) := by decide +kernel
theorem dX8_fieldOf_4 : decode cX8_fieldOf 4 = .ok (.iload_n 1, 1) := by decide +kernel
theorem dX8_fieldOf_5 : decode cX8_fieldOf 5 = .ok (.invokestatic 136, 3) := by decide +kernel
theorem dX8_fieldOf_8 : decode cX8_fieldOf 8 = .ok (.astore_n 3, 1) := by decide +kernel
theorem dX8_fieldOf_9 : decode cX8_fieldOf 9 = .ok (.aload_n 3, 1) := by decide +kernel
theorem dX8_field_0 : decode cX8_field 0 = .ok (.aload_n 0, 1) := by decide +kernel
theorem dX8_field_1 : decode cX8_field 1 = .ok (.iload_n 1, 1) := by decide +kernel
theorem dX8_field_10 : decode cX8_field 10 = .ok (.ifnonnull 5, 3) := by decide +kernel
theorem dX8_field_13 : decode cX8_field 13 = .ok (.iconst (-1), 1) := by decide +kernel
theorem dX8_field_14 : decode cX8_field 14 = .ok (.ireturn, 1) := by decide +kernel
theorem dX8_field_2 : decode cX8_field 2 = .ok (.iload_n 2, 1) := by decide +kernel
theorem dX8_field_3 : decode cX8_field 3 = .ok (.invokevirtual 100, 3) := by decide +kernel
theorem dX8_field_6 : decode cX8_field 6 = .ok (.astore 4, 2) := by decide +kernel
theorem dX8_field_8 : decode cX8_field 8 = .ok (.aload 4, 2) := by decide +kernel
theorem dX8_get_0 : decode cX8_get 0 = .ok (.aload_n 0, 1) := by decide +kernel
theorem dX8_get_1 : decode cX8_get 1 = .ok (.iload_n 1, 1) := by decide +kernel
theorem dX8_get_11 : decode cX8_get 11 = .ok (.iload_n 2, 1) := by decide +kernel
theorem dX8_get_12 : decode cX8_get 12 = .ok (.invokestatic 136, 3) := by decide +kernel
theorem dX8_get_15 : decode cX8_get 15 = .ok (.astore 6, 2) := by decide +kernel
theorem dX8_get_17 : decode cX8_get 17 = .ok (.aload_n 0, 1) := by decide +kernel
theorem dX8_get_18 : decode cX8_get 18 = .ok (.iload_n 2, 1) := by decide +kernel
theorem dX8_get_19 : decode cX8_get 19 = .ok (.iload_n 3, 1) := by decide +kernel
theorem dX8_get_2 : decode cX8_get 2 = .ok (.invokevirtual 128, 3) := by decide +kernel
theorem dX8_get_20 : decode cX8_get 20 = .ok (.invokevirtual 100, 3) := by decide +kernel
theorem dX8_get_23 : decode cX8_get 23 = .ok (.astore 7, 2) := by decide +kernel
theorem dX8_get_25 : decode cX8_get 25 = .ok (.aload 5, 2) := by decide +kernel
theorem dX8_get_27 : decode cX8_get 27 = .ok (.ifnull 24, 3) := by decide +kernel
theorem dX8_get_30 : decode cX8_get 30 = .ok (.aload 6, 2) := by decide +kernel
theorem dX8_get_32 : decode cX8_get 32 = .ok (.ifnull 19, 3) := by decide +kernel
theorem dX8_get_5 : decode cX8_get 5 = .ok (.astore 5, 2) := by decide +kernel
theorem dX8_get_51 : decode cX8_get 51 = .ok (.ldc2_w 184, 3) := by decide +kernel
theorem dX8_get_54 : decode cX8_get 54 = .ok (.lreturn, 1) := by decide +kernel
theorem dX8_get_7 : decode cX8_get 7 = .ok (.aload_n 0, 1) := by decide +kernel
theorem dX8_get_8 : decode cX8_get 8 = .ok (.getfield 24, 3) := by decide +kernel
theorem dX8_kept_0 : decode cX8_kept 0 = .ok (.aload_n 0, 1) := by decide +kernel
theorem dX8_kept_1 : decode cX8_kept 1 = .ok (.iload_n 1, 1) := by decide +kernel
theorem dX8_kept_10 : decode cX8_kept 10 = .ok (.iload_n 2, 1) := by decide +kernel
theorem dX8_kept_11 : decode cX8_kept 11 = .ok (.invokestatic 136, 3) := by decide +kernel
theorem dX8_kept_14 : decode cX8_kept 14 = .ok (.astore 4, 2) := by decide +kernel
theorem dX8_kept_16 : decode cX8_kept 16 = .ok (.aload_n 3, 1) := by decide +kernel
theorem dX8_kept_17 : decode cX8_kept 17 = .ok (.ifnull 21, 3) := by decide +kernel
theorem dX8_kept_2 : decode cX8_kept 2 = .ok (.invokevirtual 128, 3) := by decide +kernel
theorem dX8_kept_20 : decode cX8_kept 20 = .ok (.aload 4, 2) := by decide +kernel
theorem dX8_kept_22 : decode cX8_kept 22 = .ok (.ifnull 16, 3) := by decide +kernel
theorem dX8_kept_38 : decode cX8_kept 38 = .ok (.iconst (-1), 1) := by decide +kernel
theorem dX8_kept_39 : decode cX8_kept 39 = .ok (.ireturn, 1) := by decide +kernel
theorem dX8_kept_5 : decode cX8_kept 5 = .ok (.astore_n 3, 1) := by decide +kernel
theorem dX8_kept_6 : decode cX8_kept 6 = .ok (.aload_n 0, 1) := by decide +kernel
theorem dX8_kept_7 : decode cX8_kept 7 = .ok (.getfield 24, 3) := by decide +kernel
theorem dX8_load_0 : decode cX8_load 0 = .ok (.aload_n 0, 1) := by decide +kernel
theorem dX8_load_1 : decode cX8_load 1 = .ok (.iload_n 1, 1) := by decide +kernel
theorem dX8_load_10 : decode cX8_load 10 = .ok (.aload_n 0, 1) := by decide +kernel
theorem dX8_load_11 : decode cX8_load 11 = .ok (.getfield 14, 3) := by decide +kernel
theorem dX8_load_14 : decode cX8_load 14 = .ok (.invokevirtual 76, 3) := by decide +kernel
theorem dX8_load_17 : decode cX8_load 17 = .ok (.bipush 120, 2) := by decide +kernel
theorem dX8_load_19 : decode cX8_load 19 = .ok (.if_icmp .le 5, 3) := by decide +kernel
theorem dX8_load_2 : decode cX8_load 2 = .ok (.invokevirtual 128, 3) := by decide +kernel
theorem dX8_load_22 : decode cX8_load 22 = .ok (.iconst (-1), 1) := by decide +kernel
theorem dX8_load_23 : decode cX8_load 23 = .ok (.ireturn, 1) := by decide +kernel
theorem dX8_load_24 : decode cX8_load 24 = .ok (.aload_n 2, 1) := by decide +kernel
theorem dX8_load_25 : decode cX8_load 25 = .ok (.aload_n 0, 1) := by decide +kernel
theorem dX8_load_26 : decode cX8_load 26 = .ok (.getfield 14, 3) := by decide +kernel
theorem dX8_load_29 : decode cX8_load 29 = .ok (.iconst 0, 1) := by decide +kernel
theorem dX8_load_30 : decode cX8_load 30 = .ok (.aload_n 0, 1) := by decide +kernel
theorem dX8_load_31 : decode cX8_load 31 = .ok (.getfield 14, 3) := by decide +kernel
theorem dX8_load_34 : decode cX8_load 34 = .ok (.invokevirtual 76, 3) := by decide +kernel
theorem dX8_load_37 : decode cX8_load 37 = .ok (.invokevirtual 132, 3) := by decide +kernel
theorem dX8_load_40 : decode cX8_load 40 = .ok (.aload_n 0, 1) := by decide +kernel
theorem dX8_load_41 : decode cX8_load 41 = .ok (.getfield 14, 3) := by decide +kernel
theorem dX8_load_44 : decode cX8_load 44 = .ok (.iconst 0, 1) := by decide +kernel
theorem dX8_load_45 : decode cX8_load 45 = .ok (.invokevirtual 83, 3) := by decide +kernel
theorem dX8_load_48 : decode cX8_load 48 = .ok (.pop, 1) := by decide +kernel
theorem dX8_load_49 : decode cX8_load 49 = .ok (.aload_n 2, 1) := by decide +kernel
theorem dX8_load_5 : decode cX8_load 5 = .ok (.astore_n 2, 1) := by decide +kernel
theorem dX8_load_50 : decode cX8_load 50 = .ok (.invokevirtual 76, 3) := by decide +kernel
theorem dX8_load_53 : decode cX8_load 53 = .ok (.ireturn, 1) := by decide +kernel
theorem dX8_load_6 : decode cX8_load 6 = .ok (.aload_n 2, 1) := by decide +kernel
theorem dX8_load_7 : decode cX8_load 7 = .ok (.ifnull 15, 3) := by decide +kernel
theorem dX8_lookAlong_0 : decode cX8_lookAlong 0 = .ok (.aload_n 0, 1) := by decide +kernel
theorem dX8_lookAlong_1 : decode cX8_lookAlong 1 = .ok (.getfield 24, 3) := by decide +kernel
theorem dX8_lookAlong_10 : decode cX8_lookAlong 10 = .ok (.aload_n 0, 1) := by decide +kernel
theorem dX8_lookAlong_11 : decode cX8_lookAlong 11 = .ok (.getfield 24, 3) := by decide +kernel
theorem dX8_lookAlong_14 : decode cX8_lookAlong 14 = .ok (.iload_n 2, 1) := by decide +kernel
theorem dX8_lookAlong_15 : decode cX8_lookAlong 15 = .ok (.invokestatic 136, 3) := by decide +kernel
theorem dX8_lookAlong_18 : decode cX8_lookAlong 18 = .ok (.astore 5, 2) := by decide +kernel
theorem dX8_lookAlong_20 : decode cX8_lookAlong 20 = .ok (.aload_n 0, 1) := by decide +kernel
theorem dX8_lookAlong_21 : decode cX8_lookAlong 21 = .ok (.getfield 24, 3) := by decide +kernel
theorem dX8_lookAlong_24 : decode cX8_lookAlong 24 = .ok (.iload_n 3, 1) := by decide +kernel
theorem dX8_lookAlong_25 : decode cX8_lookAlong 25 = .ok (.invokestatic 136, 3) := by decide +kernel
theorem dX8_lookAlong_28 : decode cX8_lookAlong 28 = .ok (.astore 6, 2) := by decide +kernel
theorem dX8_lookAlong_30 : decode cX8_lookAlong 30 = .ok (.aload 4, 2) := by decide +kernel
theorem dX8_lookAlong_32 : decode cX8_lookAlong 32 = .ok (.ifnull 13, 3) := by decide +kernel
theorem dX8_lookAlong_4 : decode cX8_lookAlong 4 = .ok (.iload_n 1, 1) := by decide +kernel
theorem dX8_lookAlong_45 : decode cX8_lookAlong 45 = .ok (.iconst (-1), 1) := by decide +kernel
theorem dX8_lookAlong_46 : decode cX8_lookAlong 46 = .ok (.ireturn, 1) := by decide +kernel
theorem dX8_lookAlong_5 : decode cX8_lookAlong 5 = .ok (.invokestatic 136, 3) := by decide +kernel
theorem dX8_lookAlong_8 : decode cX8_lookAlong 8 = .ok (.astore 4, 2) := by decide +kernel
theorem dX8_makeOf_0 : decode cX8_makeOf 0 = .ok (.iload_n 1, 1) := by decide +kernel
theorem dX8_makeOf_1 : decode cX8_makeOf 1 = .ok (.ifCond .lt 15, 3) := by decide +kernel
theorem dX8_makeOf_10 : decode cX8_makeOf 10 = .ok (.aload_n 0, 1) := by decide +kernel
theorem dX8_makeOf_11 : decode cX8_makeOf 11 = .ok (.iload_n 1, 1) := by decide +kernel
theorem dX8_makeOf_12 : decode cX8_makeOf 12 = .ok (.aaload, 1) := by decide +kernel
theorem dX8_makeOf_13 : decode cX8_makeOf 13 = .ok (.goto 4, 3) := by decide +kernel
theorem dX8_makeOf_16 : decode cX8_makeOf 16 = .ok (.aconst_null, 1) := by decide +kernel
theorem dX8_makeOf_17 : decode cX8_makeOf 17 = .ok (.areturn, 1) := by decide +kernel
theorem dX8_makeOf_4 : decode cX8_makeOf 4 = .ok (.iload_n 1, 1) := by decide +kernel
theorem dX8_makeOf_5 : decode cX8_makeOf 5 = .ok (.aload_n 0, 1) := by decide +kernel
theorem dX8_makeOf_6 : decode cX8_makeOf 6 = .ok (.arraylength, 1) := by decide +kernel
theorem dX8_makeOf_7 : decode cX8_makeOf 7 = .ok (.if_icmp .ge 9, 3) := by decide +kernel
theorem dX8_make_0 : decode cX8_make 0 = .ok (.iload_n 1, 1) := by decide +kernel
theorem dX8_make_1 : decode cX8_make 1 = .ok (.ifCond .lt 18, 3) := by decide +kernel
theorem dX8_make_10 : decode cX8_make 10 = .ok (.aload_n 0, 1) := by decide +kernel
theorem dX8_make_11 : decode cX8_make 11 = .ok (.getfield 24, 3) := by decide +kernel
theorem dX8_make_14 : decode cX8_make 14 = .ok (.iload_n 1, 1) := by decide +kernel
theorem dX8_make_15 : decode cX8_make 15 = .ok (.aaload, 1) := by decide +kernel
theorem dX8_make_16 : decode cX8_make 16 = .ok (.ifnull 6, 3) := by decide +kernel
theorem dX8_make_19 : decode cX8_make 19 = .ok (.bipush (-2), 2) := by decide +kernel
theorem dX8_make_21 : decode cX8_make 21 = .ok (.ireturn, 1) := by decide +kernel
theorem dX8_make_22 : decode cX8_make 22 = .ok (.aload_n 0, 1) := by decide +kernel
theorem dX8_make_23 : decode cX8_make 23 = .ok (.getfield 33, 3) := by decide +kernel
theorem dX8_make_26 : decode cX8_make 26 = .ok (.iload_n 1, 1) := by decide +kernel
theorem dX8_make_27 : decode cX8_make 27 = .ok (.invokevirtual 87, 3) := by decide +kernel
theorem dX8_make_30 : decode cX8_make 30 = .ok (.astore_n 2, 1) := by decide +kernel
theorem dX8_make_31 : decode cX8_make 31 = .ok (.aload_n 0, 1) := by decide +kernel
theorem dX8_make_32 : decode cX8_make 32 = .ok (.getfield 14, 3) := by decide +kernel
theorem dX8_make_35 : decode cX8_make 35 = .ok (.iconst 0, 1) := by decide +kernel
theorem dX8_make_36 : decode cX8_make 36 = .ok (.invokevirtual 83, 3) := by decide +kernel
theorem dX8_make_39 : decode cX8_make 39 = .ok (.pop, 1) := by decide +kernel
theorem dX8_make_4 : decode cX8_make 4 = .ok (.iload_n 1, 1) := by decide +kernel
theorem dX8_make_40 : decode cX8_make 40 = .ok (.aload_n 0, 1) := by decide +kernel
theorem dX8_make_41 : decode cX8_make 41 = .ok (.aload_n 0, 1) := by decide +kernel
theorem dX8_make_42 : decode cX8_make 42 = .ok (.getfield 33, 3) := by decide +kernel
theorem dX8_make_45 : decode cX8_make 45 = .ok (.invokevirtual 91, 3) := by decide +kernel
theorem dX8_make_48 : decode cX8_make 48 = .ok (.putfield 66, 3) := by decide +kernel
theorem dX8_make_5 : decode cX8_make 5 = .ok (.bipush 8, 2) := by decide +kernel
theorem dX8_make_51 : decode cX8_make 51 = .ok (.aload_n 0, 1) := by decide +kernel
theorem dX8_make_52 : decode cX8_make 52 = .ok (.aload_n 0, 1) := by decide +kernel
theorem dX8_make_53 : decode cX8_make 53 = .ok (.getfield 33, 3) := by decide +kernel
theorem dX8_make_56 : decode cX8_make 56 = .ok (.invokevirtual 94, 3) := by decide +kernel
theorem dX8_make_59 : decode cX8_make 59 = .ok (.putfield 70, 3) := by decide +kernel
theorem dX8_make_62 : decode cX8_make 62 = .ok (.aload_n 2, 1) := by decide +kernel
theorem dX8_make_63 : decode cX8_make 63 = .ok (.ifnonnull 5, 3) := by decide +kernel
theorem dX8_make_68 : decode cX8_make 68 = .ok (.aload_n 0, 1) := by decide +kernel
theorem dX8_make_69 : decode cX8_make 69 = .ok (.getfield 24, 3) := by decide +kernel
theorem dX8_make_7 : decode cX8_make 7 = .ok (.if_icmp .ge 12, 3) := by decide +kernel
theorem dX8_make_72 : decode cX8_make 72 = .ok (.iload_n 1, 1) := by decide +kernel
theorem dX8_make_73 : decode cX8_make 73 = .ok (.aload_n 2, 1) := by decide +kernel
theorem dX8_make_74 : decode cX8_make 74 = .ok (.aastore, 1) := by decide +kernel
theorem dX8_make_75 : decode cX8_make 75 = .ok (.aload_n 2, 1) := by decide +kernel
theorem dX8_make_76 : decode cX8_make 76 = .ok (.invokevirtual 97, 3) := by decide +kernel
theorem dX8_make_79 : decode cX8_make 79 = .ok (.ireturn, 1) := by decide +kernel
theorem dX8_nest_0 : decode cX8_nest 0 = .ok (.aload_n 0, 1) := by decide +kernel
theorem dX8_nest_1 : decode cX8_nest 1 = .ok (.iload_n 1, 1) := by decide +kernel
theorem dX8_nest_10 : decode cX8_nest 10 = .ok (.invokevirtual 128, 3) := by decide +kernel
theorem dX8_nest_13 : decode cX8_nest 13 = .ok (.astore 6, 2) := by decide +kernel
theorem dX8_nest_15 : decode cX8_nest 15 = .ok (.aload_n 0, 1) := by decide +kernel
theorem dX8_nest_16 : decode cX8_nest 16 = .ok (.getfield 24, 3) := by decide +kernel
theorem dX8_nest_19 : decode cX8_nest 19 = .ok (.iload_n 2, 1) := by decide +kernel
theorem dX8_nest_2 : decode cX8_nest 2 = .ok (.invokevirtual 128, 3) := by decide +kernel
theorem dX8_nest_20 : decode cX8_nest 20 = .ok (.invokestatic 136, 3) := by decide +kernel
theorem dX8_nest_23 : decode cX8_nest 23 = .ok (.astore 7, 2) := by decide +kernel
theorem dX8_nest_25 : decode cX8_nest 25 = .ok (.aload_n 0, 1) := by decide +kernel
theorem dX8_nest_26 : decode cX8_nest 26 = .ok (.iload_n 2, 1) := by decide +kernel
theorem dX8_nest_27 : decode cX8_nest 27 = .ok (.iload_n 3, 1) := by decide +kernel
theorem dX8_nest_28 : decode cX8_nest 28 = .ok (.invokevirtual 100, 3) := by decide +kernel
theorem dX8_nest_31 : decode cX8_nest 31 = .ok (.astore 8, 2) := by decide +kernel
theorem dX8_nest_33 : decode cX8_nest 33 = .ok (.aload 5, 2) := by decide +kernel
theorem dX8_nest_35 : decode cX8_nest 35 = .ok (.ifnull 34, 3) := by decide +kernel
theorem dX8_nest_38 : decode cX8_nest 38 = .ok (.aload 6, 2) := by decide +kernel
theorem dX8_nest_40 : decode cX8_nest 40 = .ok (.ifnull 29, 3) := by decide +kernel
theorem dX8_nest_43 : decode cX8_nest 43 = .ok (.aload 7, 2) := by decide +kernel
theorem dX8_nest_45 : decode cX8_nest 45 = .ok (.ifnull 24, 3) := by decide +kernel
theorem dX8_nest_5 : decode cX8_nest 5 = .ok (.astore 5, 2) := by decide +kernel
theorem dX8_nest_69 : decode cX8_nest 69 = .ok (.iconst (-1), 1) := by decide +kernel
theorem dX8_nest_7 : decode cX8_nest 7 = .ok (.aload_n 0, 1) := by decide +kernel
theorem dX8_nest_70 : decode cX8_nest 70 = .ok (.ireturn, 1) := by decide +kernel
theorem dX8_nest_8 : decode cX8_nest 8 = .ok (.iload 4, 2) := by decide +kernel
theorem dX8_open_0 : decode cX8_open 0 = .ok (.aload_n 0, 1) := by decide +kernel
theorem dX8_open_1 : decode cX8_open 1 = .ok (.iload_n 1, 1) := by decide +kernel
theorem dX8_open_10 : decode cX8_open 10 = .ok (.invokevirtual 128, 3) := by decide +kernel
theorem dX8_open_13 : decode cX8_open 13 = .ok (.astore 6, 2) := by decide +kernel
theorem dX8_open_15 : decode cX8_open 15 = .ok (.aload_n 0, 1) := by decide +kernel
theorem dX8_open_16 : decode cX8_open 16 = .ok (.getfield 24, 3) := by decide +kernel
theorem dX8_open_19 : decode cX8_open 19 = .ok (.iload_n 2, 1) := by decide +kernel
theorem dX8_open_2 : decode cX8_open 2 = .ok (.invokevirtual 128, 3) := by decide +kernel
theorem dX8_open_20 : decode cX8_open 20 = .ok (.invokestatic 136, 3) := by decide +kernel
theorem dX8_open_23 : decode cX8_open 23 = .ok (.astore 7, 2) := by decide +kernel
theorem dX8_open_25 : decode cX8_open 25 = .ok (.aload_n 0, 1) := by decide +kernel
theorem dX8_open_26 : decode cX8_open 26 = .ok (.iload_n 2, 1) := by decide +kernel
theorem dX8_open_27 : decode cX8_open 27 = .ok (.iload_n 3, 1) := by decide +kernel
theorem dX8_open_28 : decode cX8_open 28 = .ok (.invokevirtual 100, 3) := by decide +kernel
theorem dX8_open_31 : decode cX8_open 31 = .ok (.astore 8, 2) := by decide +kernel
theorem dX8_open_33 : decode cX8_open 33 = .ok (.aload 5, 2) := by decide +kernel
theorem dX8_open_35 : decode cX8_open 35 = .ok (.ifnull 28, 3) := by decide +kernel
theorem dX8_open_38 : decode cX8_open 38 = .ok (.aload 6, 2) := by decide +kernel
theorem dX8_open_40 : decode cX8_open 40 = .ok (.ifnull 23, 3) := by decide +kernel
theorem dX8_open_43 : decode cX8_open 43 = .ok (.aload 7, 2) := by decide +kernel
theorem dX8_open_45 : decode cX8_open 45 = .ok (.ifnull 18, 3) := by decide +kernel
theorem dX8_open_5 : decode cX8_open 5 = .ok (.astore 5, 2) := by decide +kernel
theorem dX8_open_63 : decode cX8_open 63 = .ok (.iconst (-1), 1) := by decide +kernel
theorem dX8_open_64 : decode cX8_open 64 = .ok (.ireturn, 1) := by decide +kernel
theorem dX8_open_7 : decode cX8_open 7 = .ok (.aload_n 0, 1) := by decide +kernel
theorem dX8_open_8 : decode cX8_open 8 = .ok (.iload 4, 2) := by decide +kernel
theorem dX8_plain_0 : decode cX8_plain 0 = .ok (.aload_n 0, 1) := by decide +kernel
theorem dX8_plain_1 : decode cX8_plain 1 = .ok (.iload_n 1, 1) := by decide +kernel
theorem dX8_plain_11 : decode cX8_plain 11 = .ok (.lconst 0, 1) := by decide +kernel
theorem dX8_plain_12 : decode cX8_plain 12 = .ok (.goto 7, 3) := by decide +kernel
theorem dX8_plain_19 : decode cX8_plain 19 = .ok (.lreturn, 1) := by decide +kernel
theorem dX8_plain_2 : decode cX8_plain 2 = .ok (.iload_n 2, 1) := by decide +kernel
theorem dX8_plain_3 : decode cX8_plain 3 = .ok (.invokevirtual 100, 3) := by decide +kernel
theorem dX8_plain_6 : decode cX8_plain 6 = .ok (.astore_n 3, 1) := by decide +kernel
theorem dX8_plain_7 : decode cX8_plain 7 = .ok (.aload_n 3, 1) := by decide +kernel
theorem dX8_plain_8 : decode cX8_plain 8 = .ok (.ifnonnull 7, 3) := by decide +kernel
theorem dX8_read_0 : decode cX8_read 0 = .ok (.aload_n 0, 1) := by decide +kernel
theorem dX8_read_1 : decode cX8_read 1 = .ok (.iload_n 1, 1) := by decide +kernel
theorem dX8_read_10 : decode cX8_read 10 = .ok (.iload_n 2, 1) := by decide +kernel
theorem dX8_read_11 : decode cX8_read 11 = .ok (.invokestatic 136, 3) := by decide +kernel
theorem dX8_read_14 : decode cX8_read 14 = .ok (.astore 4, 2) := by decide +kernel
theorem dX8_read_16 : decode cX8_read 16 = .ok (.aload_n 0, 1) := by decide +kernel
theorem dX8_read_17 : decode cX8_read 17 = .ok (.iconst 0, 1) := by decide +kernel
theorem dX8_read_18 : decode cX8_read 18 = .ok (.putfield 66, 3) := by decide +kernel
theorem dX8_read_2 : decode cX8_read 2 = .ok (.invokevirtual 128, 3) := by decide +kernel
theorem dX8_read_21 : decode cX8_read 21 = .ok (.aload_n 0, 1) := by decide +kernel
theorem dX8_read_22 : decode cX8_read 22 = .ok (.iconst (-1), 1) := by decide +kernel
theorem dX8_read_23 : decode cX8_read 23 = .ok (.putfield 70, 3) := by decide +kernel
theorem dX8_read_26 : decode cX8_read 26 = .ok (.aload_n 3, 1) := by decide +kernel
theorem dX8_read_27 : decode cX8_read 27 = .ok (.ifnull 8, 3) := by decide +kernel
theorem dX8_read_30 : decode cX8_read 30 = .ok (.aload 4, 2) := by decide +kernel
theorem dX8_read_32 : decode cX8_read 32 = .ok (.ifnonnull 6, 3) := by decide +kernel
theorem dX8_read_35 : decode cX8_read 35 = .ok (.bipush (-2), 2) := by decide +kernel
theorem dX8_read_37 : decode cX8_read 37 = .ok (.ireturn, 1) := by decide +kernel
theorem dX8_read_5 : decode cX8_read 5 = .ok (.astore_n 3, 1) := by decide +kernel
theorem dX8_read_6 : decode cX8_read 6 = .ok (.aload_n 0, 1) := by decide +kernel
theorem dX8_read_7 : decode cX8_read 7 = .ok (.getfield 24, 3) := by decide +kernel
theorem dX8_readers_0 : decode cX8_readers 0 = .ok (.aload_n 0, 1) := by decide +kernel
theorem dX8_readers_1 : decode cX8_readers 1 = .ok (.getfield 24, 3) := by decide +kernel
theorem dX8_readers_11 : decode cX8_readers 11 = .ok (.iconst (-1), 1) := by decide +kernel
theorem dX8_readers_12 : decode cX8_readers 12 = .ok (.ireturn, 1) := by decide +kernel
theorem dX8_readers_4 : decode cX8_readers 4 = .ok (.iload_n 1, 1) := by decide +kernel
theorem dX8_readers_5 : decode cX8_readers 5 = .ok (.invokestatic 136, 3) := by decide +kernel
theorem dX8_readers_8 : decode cX8_readers 8 = .ok (.ifnonnull 5, 3) := by decide +kernel
theorem dX8_recordOf_0 : decode cX8_recordOf 0 = .ok (.iload_n 1, 1) := by decide +kernel
theorem dX8_recordOf_1 : decode cX8_recordOf 1 = .ok (.ifCond .lt 17, 3) := by decide +kernel
theorem dX8_recordOf_10 : decode cX8_recordOf 10 = .ok (.getfield 18, 3) := by decide +kernel
theorem dX8_recordOf_13 : decode cX8_recordOf 13 = .ok (.iload_n 1, 1) := by decide +kernel
theorem dX8_recordOf_14 : decode cX8_recordOf 14 = .ok (.aaload, 1) := by decide +kernel
theorem dX8_recordOf_15 : decode cX8_recordOf 15 = .ok (.goto 4, 3) := by decide +kernel
theorem dX8_recordOf_18 : decode cX8_recordOf 18 = .ok (.aconst_null, 1) := by decide +kernel
theorem dX8_recordOf_19 : decode cX8_recordOf 19 = .ok (.areturn, 1) := by decide +kernel
theorem dX8_recordOf_4 : decode cX8_recordOf 4 = .ok (.iload_n 1, 1) := by decide +kernel
theorem dX8_recordOf_5 : decode cX8_recordOf 5 = .ok (.iconst 4, 1) := by decide +kernel
theorem dX8_recordOf_6 : decode cX8_recordOf 6 = .ok (.if_icmp .ge 12, 3) := by decide +kernel
theorem dX8_recordOf_9 : decode cX8_recordOf 9 = .ok (.aload_n 0, 1) := by decide +kernel
theorem dX8_say_0 : decode cX8_say 0 = .ok (.aload_n 0, 1) := by decide +kernel
theorem dX8_say_1 : decode cX8_say 1 = .ok (.iload_n 1, 1) := by decide +kernel
theorem dX8_say_11 : decode cX8_say 11 = .ok (.iload_n 2, 1) := by decide +kernel
theorem dX8_say_12 : decode cX8_say 12 = .ok (.invokestatic 136, 3) := by decide +kernel
theorem dX8_say_15 : decode cX8_say 15 = .ok (.astore 5, 2) := by decide +kernel
theorem dX8_say_169 : decode cX8_say 169 = .ok (.aload_n 0, 1) := by decide +kernel
theorem dX8_say_17 : decode cX8_say 17 = .ok (.aload_n 0, 1) := by decide +kernel
theorem dX8_say_170 : decode cX8_say 170 = .ok (.getfield 14, 3) := by decide +kernel
theorem dX8_say_173 : decode cX8_say 173 = .ok (.iconst 0, 1) := by decide +kernel
theorem dX8_say_174 : decode cX8_say 174 = .ok (.invokevirtual 83, 3) := by decide +kernel
theorem dX8_say_177 : decode cX8_say 177 = .ok (.pop, 1) := by decide +kernel
theorem dX8_say_178 : decode cX8_say 178 = .ok (.iload 7, 2) := by decide +kernel
theorem dX8_say_18 : decode cX8_say 18 = .ok (.iload_n 2, 1) := by decide +kernel
theorem dX8_say_180 : decode cX8_say 180 = .ok (.ireturn, 1) := by decide +kernel
theorem dX8_say_19 : decode cX8_say 19 = .ok (.iload_n 3, 1) := by decide +kernel
theorem dX8_say_2 : decode cX8_say 2 = .ok (.invokevirtual 128, 3) := by decide +kernel
theorem dX8_say_20 : decode cX8_say 20 = .ok (.invokevirtual 100, 3) := by decide +kernel
theorem dX8_say_23 : decode cX8_say 23 = .ok (.astore 6, 2) := by decide +kernel
theorem dX8_say_25 : decode cX8_say 25 = .ok (.aload 4, 2) := by decide +kernel
theorem dX8_say_27 : decode cX8_say 27 = .ok (.ifnull 22, 3) := by decide +kernel
theorem dX8_say_30 : decode cX8_say 30 = .ok (.aload 5, 2) := by decide +kernel
theorem dX8_say_32 : decode cX8_say 32 = .ok (.ifnull 17, 3) := by decide +kernel
theorem dX8_say_49 : decode cX8_say 49 = .ok (.iconst (-1), 1) := by decide +kernel
theorem dX8_say_5 : decode cX8_say 5 = .ok (.astore 4, 2) := by decide +kernel
theorem dX8_say_50 : decode cX8_say 50 = .ok (.istore 7, 2) := by decide +kernel
theorem dX8_say_52 : decode cX8_say 52 = .ok (.goto 117, 3) := by decide +kernel
theorem dX8_say_7 : decode cX8_say 7 = .ok (.aload_n 0, 1) := by decide +kernel
theorem dX8_say_8 : decode cX8_say 8 = .ok (.getfield 24, 3) := by decide +kernel
theorem dX8_set_0 : decode cX8_set 0 = .ok (.aload_n 0, 1) := by decide +kernel
theorem dX8_set_1 : decode cX8_set 1 = .ok (.iload_n 1, 1) := by decide +kernel
theorem dX8_set_11 : decode cX8_set 11 = .ok (.iload_n 2, 1) := by decide +kernel
theorem dX8_set_12 : decode cX8_set 12 = .ok (.invokestatic 136, 3) := by decide +kernel
theorem dX8_set_15 : decode cX8_set 15 = .ok (.astore 7, 2) := by decide +kernel
theorem dX8_set_17 : decode cX8_set 17 = .ok (.aload_n 0, 1) := by decide +kernel
theorem dX8_set_18 : decode cX8_set 18 = .ok (.iload_n 2, 1) := by decide +kernel
theorem dX8_set_19 : decode cX8_set 19 = .ok (.iload_n 3, 1) := by decide +kernel
theorem dX8_set_2 : decode cX8_set 2 = .ok (.invokevirtual 128, 3) := by decide +kernel
theorem dX8_set_20 : decode cX8_set 20 = .ok (.invokevirtual 100, 3) := by decide +kernel
theorem dX8_set_23 : decode cX8_set 23 = .ok (.astore 8, 2) := by decide +kernel
theorem dX8_set_25 : decode cX8_set 25 = .ok (.aload 6, 2) := by decide +kernel
theorem dX8_set_27 : decode cX8_set 27 = .ok (.ifnull 21, 3) := by decide +kernel
theorem dX8_set_30 : decode cX8_set 30 = .ok (.aload 7, 2) := by decide +kernel
theorem dX8_set_32 : decode cX8_set 32 = .ok (.ifnull 16, 3) := by decide +kernel
theorem dX8_set_48 : decode cX8_set 48 = .ok (.iconst (-1), 1) := by decide +kernel
theorem dX8_set_49 : decode cX8_set 49 = .ok (.ireturn, 1) := by decide +kernel
theorem dX8_set_5 : decode cX8_set 5 = .ok (.astore 6, 2) := by decide +kernel
theorem dX8_set_7 : decode cX8_set 7 = .ok (.aload_n 0, 1) := by decide +kernel
theorem dX8_set_8 : decode cX8_set 8 = .ok (.getfield 24, 3) := by decide +kernel
theorem dX8_step_0 : decode cX8_step 0 = .ok (.aload_n 0, 1) := by decide +kernel
theorem dX8_step_1 : decode cX8_step 1 = .ok (.iload_n 1, 1) := by decide +kernel
theorem dX8_step_2 : decode cX8_step 2 = .ok (.iload_n 2, 1) := by decide +kernel
theorem dX8_step_3 : decode cX8_step 3 = .ok (.iload_n 2, 1) := by decide +kernel
theorem dX8_step_4 : decode cX8_step 4 = .ok (.invokevirtual 205, 3) := by decide +kernel
theorem dX8_step_7 : decode cX8_step 7 = .ok (.ireturn, 1) := by decide +kernel
theorem dX8_walk_0 : decode cX8_walk 0 = .ok (.aload_n 0, 1) := by decide +kernel
theorem dX8_walk_1 : decode cX8_walk 1 = .ok (.iload_n 1, 1) := by decide +kernel
theorem dX8_walk_2 : decode cX8_walk 2 = .ok (.iload_n 2, 1) := by decide +kernel
theorem dX8_walk_3 : decode cX8_walk 3 = .ok (.iload_n 3, 1) := by decide +kernel
theorem dX8_walk_4 : decode cX8_walk 4 = .ok (.invokevirtual 205, 3) := by decide +kernel
theorem dX8_walk_7 : decode cX8_walk 7 = .ok (.ireturn, 1) := by decide +kernel
theorem dX8_write_0 : decode cX8_write 0 = .ok (.aload_n 0, 1) := by decide +kernel
theorem dX8_write_1 : decode cX8_write 1 = .ok (.iload_n 1, 1) := by decide +kernel
theorem dX8_write_12 : decode cX8_write 12 = .ok (.astore 5, 2) := by decide +kernel
theorem dX8_write_14 : decode cX8_write 14 = .ok (.aload_n 0, 1) := by decide +kernel
theorem dX8_write_15 : decode cX8_write 15 = .ok (.getfield 24, 3) := by decide +kernel
theorem dX8_write_18 : decode cX8_write 18 = .ok (.iload_n 2, 1) := by decide +kernel
theorem dX8_write_19 : decode cX8_write 19 = .ok (.invokestatic 136, 3) := by decide +kernel
theorem dX8_write_2 : decode cX8_write 2 = .ok (.invokevirtual 128, 3) := by decide +kernel
theorem dX8_write_22 : decode cX8_write 22 = .ok (.astore 6, 2) := by decide +kernel
theorem dX8_write_24 : decode cX8_write 24 = .ok (.aload 4, 2) := by decide +kernel
theorem dX8_write_26 : decode cX8_write 26 = .ok (.ifnull 13, 3) := by decide +kernel
theorem dX8_write_29 : decode cX8_write 29 = .ok (.aload 5, 2) := by decide +kernel
theorem dX8_write_31 : decode cX8_write 31 = .ok (.ifnull 8, 3) := by decide +kernel
theorem dX8_write_34 : decode cX8_write 34 = .ok (.aload 6, 2) := by decide +kernel
theorem dX8_write_36 : decode cX8_write 36 = .ok (.ifnonnull 5, 3) := by decide +kernel
theorem dX8_write_39 : decode cX8_write 39 = .ok (.iconst (-1), 1) := by decide +kernel
theorem dX8_write_40 : decode cX8_write 40 = .ok (.ireturn, 1) := by decide +kernel
theorem dX8_write_5 : decode cX8_write 5 = .ok (.astore 4, 2) := by decide +kernel
theorem dX8_write_7 : decode cX8_write 7 = .ok (.aload_n 0, 1) := by decide +kernel
theorem dX8_write_8 : decode cX8_write 8 = .ok (.iload_n 3, 1) := by decide +kernel
theorem dX8_write_9 : decode cX8_write 9 = .ok (.invokevirtual 128, 3) := by decide +kernel
def wp_X8_makeOf : List Cond := .code yX8_makeOf cX8_makeOf 2 (some (.object "RecordBench$Make")) :: ([])
set_option maxHeartbeats 4000000 in
set_option maxRecDepth 100000 in
theorem c_X8_makeOf (l : Launch) (dC : Nat → ClassId) (dI : Nat → Nat → Nat) (m0 : Nat) (p0 : Int32) (cM : ClassId) (sz : Nat) : Met l yX8_makeOf wp_X8_makeOf ({ frames := 0, cells := 0, slots := 0, locals := 0 }) (va_Pc [.ref m0, .int p0] (Pr (dC, dI) [(cM, .object RX1)] [(m0, .inl (cM, 8, .inr (.inr (.inr (.inr (fun _ => none))))))] sz)) (va_Qq (fun r : Option Nat => (fun _ : Unit => r = none)) (Bq (dC, dI) (fun _ : Unit => [(m0, .inl (cM, 8, .inr (.inr (.inr (.inr (fun _ => none))))))]) (fun _ : Unit => []) (va_A [(m0, .inl (cM, 8, .inr (.inr (.inr (.inr (fun _ => none))))))] sz)) (va_A [(m0, .inl (cM, 8, .inr (.inr (.inr (.inr (fun _ => none))))))] sz)) 0 0 (va_A [(m0, .inl (cM, 8, .inr (.inr (.inr (.inr (fun _ => none))))))] sz) := by
  refine Met.ofW (cc := cX8_makeOf) (maxL := 2) (ret := (some (.object "RecordBench$Make"))) (by decide) rfl ?_
  intro p e s m args below meth c s₁ B hml hv
  obtain ⟨rfl, hsz, hP, hK, hD0, hN, hZ⟩ := hv
  have hx := B.exec
  have hb := B.bytes
  have hr := B.returns
  have hts := atoms_spec (ws := wp_X8_makeOf) B.pre
  have hown : s.vm.findClass RX8 = some m.cls := findClass_of_methodNamed B.named
  have hlocks := B.notSynchronized
  subst hsz
  have hD := hD0.self (sz := s.heap.size)
  generalize hAe : va_A [(m0, .inl (cM, 8, .inr (.inr (.inr (.inr (fun _ => none))))))] s.heap.size = A at hD hZ ⊢
  have hA : ∀ q : Nat, s.heap.size ≤ q → A q := fun q h => by rw [← hAe]; exact Or.inr h
  have hS : va_S A s.heap s.heap [] := va_S.rf
  have hP : va_P (dC, dI) vwCl [(m0, .inl (cM, 8, .inr (.inr (.inr (.inr (fun _ => none))))))] s.heap := hP
  have hl := lv_entry ([.ref m0, .int p0]) (n := 2) (Nat.le_of_ble_eq_true rfl)
  rw [lg_entry_eq]
  generalize (lg_sl ([.ref m0, .int p0]) ++ List.replicate (2 - (lg_sl ([.ref m0, .int p0])).length) Slot.unset).toArray = ls at hl ⊢
  have hl : lv_has ls 2 [(0, .ref m0), (1, .int p0)] := hl
  refine lv_iload_n hx hb dX8_makeOf_0 rfl (lv_at hl 1 rfl) ?_
  refine lv_if_lt (tgt := 16) hx hb dX8_makeOf_1 (by decide) (fun c_1 => ?_) (fun c_1 => ?_)
  · refine lv_null hx hb dX8_makeOf_16 ?_
    have hP9 := hP.sub (ws' := [(m0, .inl (cM, 8, .inr (.inr (.inr (.inr (fun _ => none))))))]) [0] rfl
    have hD9 := hD.sub (ws' := [(m0, .inl (cM, 8, .inr (.inr (.inr (.inr (fun _ => none))))))]) [0] (by decide) rfl
    have hK9 := hK.sub (tys' := []) [] rfl
    exact W.aret (v := .null) hx hb hr (Or.inl ⟨_, rfl⟩) (Or.inl rfl) (fun t ht hW => ⟨⟨none, (), rfl, rfl, by rw [ht]; exact hP9, va_K.moved hW.alike hK9, hD9⟩, hS.F ht⟩) hS.2.2 dX8_makeOf_17
  · refine lv_iload_n hx hb dX8_makeOf_4 rfl (lv_at hl 1 rfl) ?_
    refine lv_aload_n hx hb dX8_makeOf_5 rfl (lv_at hl 0 rfl) ?_
    refine va_alen (v := 8) hx hb hK hP 0 0 rfl rfl rfl dX8_makeOf_6 ?_
    refine lv_icmp_ge (tgt := 16) hx hb dX8_makeOf_7 (by decide) (fun c_2 => ?_) (fun c_2 => ?_)
    · refine lv_null hx hb dX8_makeOf_16 ?_
      have hP9 := hP.sub (ws' := [(m0, .inl (cM, 8, .inr (.inr (.inr (.inr (fun _ => none))))))]) [0] rfl
      have hD9 := hD.sub (ws' := [(m0, .inl (cM, 8, .inr (.inr (.inr (.inr (fun _ => none))))))]) [0] (by decide) rfl
      have hK9 := hK.sub (tys' := []) [] rfl
      exact W.aret (v := .null) hx hb hr (Or.inl ⟨_, rfl⟩) (Or.inl rfl) (fun t ht hW => ⟨⟨none, (), rfl, rfl, by rw [ht]; exact hP9, va_K.moved hW.alike hK9, hD9⟩, hS.F ht⟩) hS.2.2 dX8_makeOf_17
    · refine lv_aload_n hx hb dX8_makeOf_10 rfl (lv_at hl 0 rfl) ?_
      refine lv_iload_n hx hb dX8_makeOf_11 rfl (lv_at hl 1 rfl) ?_
      refine va_aldq hx hb hK hP 0 0 rfl rfl (in_of 8 rfl (by decide) c_1 c_2) dX8_makeOf_12 ?_
      refine W.eq (g2 := F0 m 13 ls [.null]) rfl ?_
      refine lv_goto (tgt := 17) hx hb dX8_makeOf_13 (by decide) ?_
      have hP9 := hP.sub (ws' := [(m0, .inl (cM, 8, .inr (.inr (.inr (.inr (fun _ => none))))))]) [0] rfl
      have hD9 := hD.sub (ws' := [(m0, .inl (cM, 8, .inr (.inr (.inr (.inr (fun _ => none))))))]) [0] (by decide) rfl
      have hK9 := hK.sub (tys' := []) [] rfl
      exact W.aret (v := .null) hx hb hr (Or.inl ⟨_, rfl⟩) (Or.inl rfl) (fun t ht hW => ⟨⟨none, (), rfl, rfl, by rw [ht]; exact hP9, va_K.moved hW.alike hK9, hD9⟩, hS.F ht⟩) hS.2.2 dX8_makeOf_17
def wp_X8_recordAny : List Cond := .code yX8_recordOf cX8_recordOf 2 (some (.object "RecordBench$Row")) :: ([.fieldLink RX8 18 "RecordBench" "records" "[LRecordBench$Row;"] ++ wsX80)
set_option maxHeartbeats 4000000 in
set_option maxRecDepth 100000 in
theorem c_X8_recordAny (l : Launch) (dC : Nat → ClassId) (dI : Nat → Nat → Nat) (h0 : Nat) (t0 : Nat) (r0 : Nat) (m0 : Nat) (x0 : Nat) (v4 : Value) (v5 : Value) (v6 : Value) (v7 : Value) (v8 : Value) (cR : ClassId) (fR : Nat → Option Nat) (p0 : Int32) (sz : Nat) : Met l yX8_recordOf wp_X8_recordAny ({ frames := 0, cells := 0, slots := 0, locals := 0 }) (va_Pc [.ref h0, .int p0] (Pr (dC, dI) [(cR, .object RX5)] [(h0, .inr (10, [.ref t0, .ref r0, .ref m0, .ref x0, v4, v5, v6, v7, v8, .int 0, .int ((-1)), .int 0])), (r0, .inl (cR, 4, .inr (.inr (.inr (.inr fR)))))] sz)) (va_Qq (fun r : Option Nat => (fun _ : Unit => True)) (Bq (dC, dI) (fun _ : Unit => [(h0, .inr (10, [.ref t0, .ref r0, .ref m0, .ref x0, v4, v5, v6, v7, v8, .int 0, .int ((-1)), .int 0])), (r0, .inl (cR, 4, .inr (.inr (.inr (.inr fR)))))]) (fun _ : Unit => []) (va_A [(h0, .inr (10, [.ref t0, .ref r0, .ref m0, .ref x0, v4, v5, v6, v7, v8, .int 0, .int ((-1)), .int 0])), (r0, .inl (cR, 4, .inr (.inr (.inr (.inr fR)))))] sz)) (va_A [(h0, .inr (10, [.ref t0, .ref r0, .ref m0, .ref x0, v4, v5, v6, v7, v8, .int 0, .int ((-1)), .int 0])), (r0, .inl (cR, 4, .inr (.inr (.inr (.inr fR)))))] sz)) 0 0 (va_A [(h0, .inr (10, [.ref t0, .ref r0, .ref m0, .ref x0, v4, v5, v6, v7, v8, .int 0, .int ((-1)), .int 0])), (r0, .inl (cR, 4, .inr (.inr (.inr (.inr fR)))))] sz) := by
  refine Met.ofW (cc := cX8_recordOf) (maxL := 2) (ret := (some (.object "RecordBench$Row"))) (by decide) rfl ?_
  intro p e s m args below meth c s₁ B hml hv
  obtain ⟨rfl, hsz, hP, hK, hD0, hN, hZ⟩ := hv
  have hx := B.exec
  have hb := B.bytes
  have hr := B.returns
  have hts := atoms_spec (ws := wp_X8_recordAny) B.pre
  have hown : s.vm.findClass RX8 = some m.cls := findClass_of_methodNamed B.named
  have hlocks := B.notSynchronized
  have iRX8 : ∀ w ∈ u_ws RX8 TX8 12, w ∈ wp_X8_recordAny := by decide +kernel
  subst hsz
  have hD := hD0.self (sz := s.heap.size)
  generalize hAe : va_A [(h0, .inr (10, [.ref t0, .ref r0, .ref m0, .ref x0, v4, v5, v6, v7, v8, .int 0, .int ((-1)), .int 0])), (r0, .inl (cR, 4, .inr (.inr (.inr (.inr fR)))))] s.heap.size = A at hD hZ ⊢
  have hA : ∀ q : Nat, s.heap.size ≤ q → A q := fun q h => by rw [← hAe]; exact Or.inr h
  have hS : va_S A s.heap s.heap [] := va_S.rf
  have hP : va_P (dC, dI) vwCl [(h0, .inr (10, [.ref t0, .ref r0, .ref m0, .ref x0, v4, v5, v6, v7, v8, .int 0, .int ((-1)), .int 0])), (r0, .inl (cR, 4, .inr (.inr (.inr (.inr fR)))))] s.heap := hP
  have hl := lv_entry ([.ref h0, .int p0]) (n := 2) (Nat.le_of_ble_eq_true rfl)
  rw [lg_entry_eq]
  generalize (lg_sl ([.ref h0, .int p0]) ++ List.replicate (2 - (lg_sl ([.ref h0, .int p0])).length) Slot.unset).toArray = ls at hl ⊢
  have hl : lv_has ls 2 [(0, .ref h0), (1, .int p0)] := hl
  refine lv_iload_n hx hb dX8_recordOf_0 rfl (lv_at hl 1 rfl) ?_
  refine lv_if_lt (tgt := 18) hx hb dX8_recordOf_1 (by decide) (fun c_1 => ?_) (fun c_1 => ?_)
  · refine lv_null hx hb dX8_recordOf_18 ?_
    have hP9 := hP.sub (ws' := [(h0, .inr (10, [.ref t0, .ref r0, .ref m0, .ref x0, v4, v5, v6, v7, v8, .int 0, .int ((-1)), .int 0])), (r0, .inl (cR, 4, .inr (.inr (.inr (.inr fR)))))]) [0, 1] rfl
    have hD9 := hD.sub (ws' := [(h0, .inr (10, [.ref t0, .ref r0, .ref m0, .ref x0, v4, v5, v6, v7, v8, .int 0, .int ((-1)), .int 0])), (r0, .inl (cR, 4, .inr (.inr (.inr (.inr fR)))))]) [0, 1] (by decide) rfl
    have hK9 := hK.sub (tys' := []) [] rfl
    exact W.aret (v := .null) hx hb hr (Or.inl ⟨_, rfl⟩) (Or.inl rfl) (fun t ht hW => ⟨⟨none, (), rfl, trivial, by rw [ht]; exact hP9, va_K.moved hW.alike hK9, hD9⟩, hS.F ht⟩) hS.2.2 dX8_recordOf_19
  · refine lv_iload_n hx hb dX8_recordOf_4 rfl (lv_at hl 1 rfl) ?_
    refine lv_iconst (v := 4) hx hb dX8_recordOf_5 (by decide) ?_
    refine lv_icmp_ge (tgt := 18) hx hb dX8_recordOf_6 (by decide) (fun c_2 => ?_) (fun c_2 => ?_)
    · refine lv_null hx hb dX8_recordOf_18 ?_
      have hP9 := hP.sub (ws' := [(h0, .inr (10, [.ref t0, .ref r0, .ref m0, .ref x0, v4, v5, v6, v7, v8, .int 0, .int ((-1)), .int 0])), (r0, .inl (cR, 4, .inr (.inr (.inr (.inr fR)))))]) [0, 1] rfl
      have hD9 := hD.sub (ws' := [(h0, .inr (10, [.ref t0, .ref r0, .ref m0, .ref x0, v4, v5, v6, v7, v8, .int 0, .int ((-1)), .int 0])), (r0, .inl (cR, 4, .inr (.inr (.inr (.inr fR)))))]) [0, 1] (by decide) rfl
      have hK9 := hK.sub (tys' := []) [] rfl
      exact W.aret (v := .null) hx hb hr (Or.inl ⟨_, rfl⟩) (Or.inl rfl) (fun t ht hW => ⟨⟨none, (), rfl, trivial, by rw [ht]; exact hP9, va_K.moved hW.alike hK9, hD9⟩, hS.F ht⟩) hS.2.2 dX8_recordOf_19
    · refine lv_aload_n hx hb dX8_recordOf_9 rfl (lv_at hl 0 rfl) ?_
      refine va_get (D := (dC, dI)) (ci := 10) (v := .ref r0) (C := RX8) (T := TX8) (N := 12) hx hb hts iRX8 hown hK hP 0 rfl rfl 1 (by decide) (hts (.fieldLink RX8 18 "RecordBench" "records" "[LRecordBench$Row;") (by decide +kernel)) (fun _ h9 => h9) rfl dX8_recordOf_10 ?_
      refine lv_iload_n hx hb dX8_recordOf_13 rfl (lv_at hl 1 rfl) ?_
      refine va_aldq hx hb hK hP 1 0 rfl rfl (in_of 4 rfl (by decide) c_1 c_2) dX8_recordOf_14 ?_
      refine W.eq (g2 := F0 m 15 ls [va_rf (fR p0.toNatClampNeg)]) rfl ?_
      refine lv_goto (tgt := 19) hx hb dX8_recordOf_15 (by decide) ?_
      have hP9 := hP.sub (ws' := [(h0, .inr (10, [.ref t0, .ref r0, .ref m0, .ref x0, v4, v5, v6, v7, v8, .int 0, .int ((-1)), .int 0])), (r0, .inl (cR, 4, .inr (.inr (.inr (.inr fR)))))]) [0, 1] rfl
      have hD9 := hD.sub (ws' := [(h0, .inr (10, [.ref t0, .ref r0, .ref m0, .ref x0, v4, v5, v6, v7, v8, .int 0, .int ((-1)), .int 0])), (r0, .inl (cR, 4, .inr (.inr (.inr (.inr fR)))))]) [0, 1] (by decide) rfl
      have hK9 := hK.sub (tys' := []) [] rfl
      exact W.aret (v := va_rf (fR p0.toNatClampNeg)) hx hb hr (Or.inl ⟨_, rfl⟩) (rf_or _) (fun t ht hW => ⟨⟨(fR p0.toNatClampNeg), (), rfl, trivial, by rw [ht]; exact hP9, va_K.moved hW.alike hK9, hD9⟩, hS.F ht⟩) hS.2.2 dX8_recordOf_19
def wp_X8_recordOf : List Cond := .code yX8_recordOf cX8_recordOf 2 (some (.object "RecordBench$Row")) :: ([.fieldLink RX8 18 "RecordBench" "records" "[LRecordBench$Row;"] ++ wsX80)
set_option maxHeartbeats 4000000 in
set_option maxRecDepth 100000 in
theorem c_X8_recordOf (l : Launch) (dC : Nat → ClassId) (dI : Nat → Nat → Nat) (h0 : Nat) (t0 : Nat) (r0 : Nat) (m0 : Nat) (x0 : Nat) (v4 : Value) (v5 : Value) (v6 : Value) (v7 : Value) (v8 : Value) (cR : ClassId) (fR : Nat → Option Nat) (q0 : Nat) (q1 : Nat) (q2 : Nat) (q3 : Nat) (hq0 : fR 0 = some q0) (hq1 : fR 1 = some q1) (hq2 : fR 2 = some q2) (hq3 : fR 3 = some q3) (p0 : Int32) (sz : Nat) : Met l yX8_recordOf wp_X8_recordOf ({ frames := 0, cells := 0, slots := 0, locals := 0 }) (va_Pc [.ref h0, .int p0] (Pr (dC, dI) [(cR, .object RX5)] [(h0, .inr (10, [.ref t0, .ref r0, .ref m0, .ref x0, v4, v5, v6, v7, v8, .int 0, .int ((-1)), .int 0])), (r0, .inl (cR, 4, .inr (.inr (.inr (.inr fR)))))] sz)) (va_Qq (fun r : Option Nat => (fun _ : Unit => ((p0 < 0 ∨ 4 ≤ p0) ∧ r = none) ∨ (¬ (p0 < 0 ∨ 4 ≤ p0) ∧ (r = some q0 ∨ r = some q1 ∨ r = some q2 ∨ r = some q3)))) (Bq (dC, dI) (fun _ : Unit => [(h0, .inr (10, [.ref t0, .ref r0, .ref m0, .ref x0, v4, v5, v6, v7, v8, .int 0, .int ((-1)), .int 0])), (r0, .inl (cR, 4, .inr (.inr (.inr (.inr fR)))))]) (fun _ : Unit => []) (va_A [(h0, .inr (10, [.ref t0, .ref r0, .ref m0, .ref x0, v4, v5, v6, v7, v8, .int 0, .int ((-1)), .int 0])), (r0, .inl (cR, 4, .inr (.inr (.inr (.inr fR)))))] sz)) (va_A [(h0, .inr (10, [.ref t0, .ref r0, .ref m0, .ref x0, v4, v5, v6, v7, v8, .int 0, .int ((-1)), .int 0])), (r0, .inl (cR, 4, .inr (.inr (.inr (.inr fR)))))] sz)) 0 0 (va_A [(h0, .inr (10, [.ref t0, .ref r0, .ref m0, .ref x0, v4, v5, v6, v7, v8, .int 0, .int ((-1)), .int 0])), (r0, .inl (cR, 4, .inr (.inr (.inr (.inr fR)))))] sz) := by
  refine Met.ofW (cc := cX8_recordOf) (maxL := 2) (ret := (some (.object "RecordBench$Row"))) (by decide) rfl ?_
  intro p e s m args below meth c s₁ B hml hv
  obtain ⟨rfl, hsz, hP, hK, hD0, hN, hZ⟩ := hv
  have hx := B.exec
  have hb := B.bytes
  have hr := B.returns
  have hts := atoms_spec (ws := wp_X8_recordOf) B.pre
  have hown : s.vm.findClass RX8 = some m.cls := findClass_of_methodNamed B.named
  have hlocks := B.notSynchronized
  have iRX8 : ∀ w ∈ u_ws RX8 TX8 12, w ∈ wp_X8_recordOf := by decide +kernel
  subst hsz
  have hD := hD0.self (sz := s.heap.size)
  generalize hAe : va_A [(h0, .inr (10, [.ref t0, .ref r0, .ref m0, .ref x0, v4, v5, v6, v7, v8, .int 0, .int ((-1)), .int 0])), (r0, .inl (cR, 4, .inr (.inr (.inr (.inr fR)))))] s.heap.size = A at hD hZ ⊢
  have hA : ∀ q : Nat, s.heap.size ≤ q → A q := fun q h => by rw [← hAe]; exact Or.inr h
  have hS : va_S A s.heap s.heap [] := va_S.rf
  have hP : va_P (dC, dI) vwCl [(h0, .inr (10, [.ref t0, .ref r0, .ref m0, .ref x0, v4, v5, v6, v7, v8, .int 0, .int ((-1)), .int 0])), (r0, .inl (cR, 4, .inr (.inr (.inr (.inr fR)))))] s.heap := hP
  have hl := lv_entry ([.ref h0, .int p0]) (n := 2) (Nat.le_of_ble_eq_true rfl)
  rw [lg_entry_eq]
  generalize (lg_sl ([.ref h0, .int p0]) ++ List.replicate (2 - (lg_sl ([.ref h0, .int p0])).length) Slot.unset).toArray = ls at hl ⊢
  have hl : lv_has ls 2 [(0, .ref h0), (1, .int p0)] := hl
  refine lv_iload_n hx hb dX8_recordOf_0 rfl (lv_at hl 1 rfl) ?_
  refine lv_if_lt (tgt := 18) hx hb dX8_recordOf_1 (by decide) (fun c_1 => ?_) (fun c_1 => ?_)
  · refine lv_null hx hb dX8_recordOf_18 ?_
    have hP9 := hP.sub (ws' := [(h0, .inr (10, [.ref t0, .ref r0, .ref m0, .ref x0, v4, v5, v6, v7, v8, .int 0, .int ((-1)), .int 0])), (r0, .inl (cR, 4, .inr (.inr (.inr (.inr fR)))))]) [0, 1] rfl
    have hD9 := hD.sub (ws' := [(h0, .inr (10, [.ref t0, .ref r0, .ref m0, .ref x0, v4, v5, v6, v7, v8, .int 0, .int ((-1)), .int 0])), (r0, .inl (cR, 4, .inr (.inr (.inr (.inr fR)))))]) [0, 1] (by decide) rfl
    have hK9 := hK.sub (tys' := []) [] rfl
    exact W.aret (v := .null) hx hb hr (Or.inl ⟨_, rfl⟩) (Or.inl rfl) (fun t ht hW => ⟨⟨none, (), rfl, Or.inl ⟨Or.inl c_1, rfl⟩, by rw [ht]; exact hP9, va_K.moved hW.alike hK9, hD9⟩, hS.F ht⟩) hS.2.2 dX8_recordOf_19
  · refine lv_iload_n hx hb dX8_recordOf_4 rfl (lv_at hl 1 rfl) ?_
    refine lv_iconst (v := 4) hx hb dX8_recordOf_5 (by decide) ?_
    refine lv_icmp_ge (tgt := 18) hx hb dX8_recordOf_6 (by decide) (fun c_2 => ?_) (fun c_2 => ?_)
    · refine lv_null hx hb dX8_recordOf_18 ?_
      have hP9 := hP.sub (ws' := [(h0, .inr (10, [.ref t0, .ref r0, .ref m0, .ref x0, v4, v5, v6, v7, v8, .int 0, .int ((-1)), .int 0])), (r0, .inl (cR, 4, .inr (.inr (.inr (.inr fR)))))]) [0, 1] rfl
      have hD9 := hD.sub (ws' := [(h0, .inr (10, [.ref t0, .ref r0, .ref m0, .ref x0, v4, v5, v6, v7, v8, .int 0, .int ((-1)), .int 0])), (r0, .inl (cR, 4, .inr (.inr (.inr (.inr fR)))))]) [0, 1] (by decide) rfl
      have hK9 := hK.sub (tys' := []) [] rfl
      exact W.aret (v := .null) hx hb hr (Or.inl ⟨_, rfl⟩) (Or.inl rfl) (fun t ht hW => ⟨⟨none, (), rfl, Or.inl ⟨Or.inr c_2, rfl⟩, by rw [ht]; exact hP9, va_K.moved hW.alike hK9, hD9⟩, hS.F ht⟩) hS.2.2 dX8_recordOf_19
    · refine lv_aload_n hx hb dX8_recordOf_9 rfl (lv_at hl 0 rfl) ?_
      refine va_get (D := (dC, dI)) (ci := 10) (v := .ref r0) (C := RX8) (T := TX8) (N := 12) hx hb hts iRX8 hown hK hP 0 rfl rfl 1 (by decide) (hts (.fieldLink RX8 18 "RecordBench" "records" "[LRecordBench$Row;") (by decide +kernel)) (fun _ h9 => h9) rfl dX8_recordOf_10 ?_
      refine lv_iload_n hx hb dX8_recordOf_13 rfl (lv_at hl 1 rfl) ?_
      refine va_aldq hx hb hK hP 1 0 rfl rfl (in_of 4 rfl (by decide) c_1 c_2) dX8_recordOf_14 ?_
      refine W.eq (g2 := F0 m 15 ls [va_rf (fR p0.toNatClampNeg)]) rfl ?_
      refine lv_goto (tgt := 19) hx hb dX8_recordOf_15 (by decide) ?_
      have hP9 := hP.sub (ws' := [(h0, .inr (10, [.ref t0, .ref r0, .ref m0, .ref x0, v4, v5, v6, v7, v8, .int 0, .int ((-1)), .int 0])), (r0, .inl (cR, 4, .inr (.inr (.inr (.inr fR)))))]) [0, 1] rfl
      have hD9 := hD.sub (ws' := [(h0, .inr (10, [.ref t0, .ref r0, .ref m0, .ref x0, v4, v5, v6, v7, v8, .int 0, .int ((-1)), .int 0])), (r0, .inl (cR, 4, .inr (.inr (.inr (.inr fR)))))]) [0, 1] (by decide) rfl
      have hK9 := hK.sub (tys' := []) [] rfl
      exact W.aret (v := va_rf (fR p0.toNatClampNeg)) hx hb hr (Or.inl ⟨_, rfl⟩) (rf_or _) (fun t ht hW => ⟨⟨(fR p0.toNatClampNeg), (), rfl, Or.inr ⟨fun h => h.elim c_1 c_2, rec4 (in_of 4 rfl (by decide) c_1 c_2) hq0 hq1 hq2 hq3⟩, by rw [ht]; exact hP9, va_K.moved hW.alike hK9, hD9⟩, hS.F ht⟩) hS.2.2 dX8_recordOf_19
def wp_X8_fieldOf : List Cond := .code yX8_fieldOf cX8_fieldOf 4 (some (.object "RecordBench$Field")) :: ([.fieldLink RX8 24 "RecordBench" "makes" "[LRecordBench$Make;", .methodLink RX8 136 yX8_makeOf, .static yX8_makeOf, .initialized RX8, .code yX8_makeOf cX8_makeOf 2 (some (.object "RecordBench$Make"))] ++ wsX80)
set_option maxRecDepth 20000 in
theorem gp_X8_fieldOf_X8_makeOf_136 : GoodIn wp_X8_fieldOf (wsS RX8 136 yX8_makeOf wp_X8_makeOf) := goodIn_p _ [5] rfl (by decide +kernel)
set_option maxHeartbeats 4000000 in
set_option maxRecDepth 100000 in
theorem c_X8_fieldOf (l : Launch) (dC : Nat → ClassId) (dI : Nat → Nat → Nat) (h0 : Nat) (t0 : Nat) (r0 : Nat) (m0 : Nat) (x0 : Nat) (v4 : Value) (v5 : Value) (v6 : Value) (v7 : Value) (v8 : Value) (cM : ClassId) (p0 : Int32) (p1 : Int32) (sz : Nat) : Met l yX8_fieldOf wp_X8_fieldOf ({ frames := 1, cells := 0, slots := 0, locals := 25 }) (va_Pc [.ref h0, .int p0, .int p1] (Pr (dC, dI) [(cM, .object RX1)] [(h0, .inr (10, [.ref t0, .ref r0, .ref m0, .ref x0, v4, v5, v6, v7, v8, .int 0, .int ((-1)), .int 0])), (m0, .inl (cM, 8, .inr (.inr (.inr (.inr (fun _ => none))))))] sz)) (va_Qq (fun r : Option Nat => (fun _ : Unit => r = none)) (Bq (dC, dI) (fun _ : Unit => [(h0, .inr (10, [.ref t0, .ref r0, .ref m0, .ref x0, v4, v5, v6, v7, v8, .int 0, .int ((-1)), .int 0])), (m0, .inl (cM, 8, .inr (.inr (.inr (.inr (fun _ => none))))))]) (fun _ : Unit => []) (va_A [(h0, .inr (10, [.ref t0, .ref r0, .ref m0, .ref x0, v4, v5, v6, v7, v8, .int 0, .int ((-1)), .int 0])), (m0, .inl (cM, 8, .inr (.inr (.inr (.inr (fun _ => none))))))] sz)) (va_A [(h0, .inr (10, [.ref t0, .ref r0, .ref m0, .ref x0, v4, v5, v6, v7, v8, .int 0, .int ((-1)), .int 0])), (m0, .inl (cM, 8, .inr (.inr (.inr (.inr (fun _ => none))))))] sz)) 0 0 (va_A [(h0, .inr (10, [.ref t0, .ref r0, .ref m0, .ref x0, v4, v5, v6, v7, v8, .int 0, .int ((-1)), .int 0])), (m0, .inl (cM, 8, .inr (.inr (.inr (.inr (fun _ => none))))))] sz) := by
  refine Met.ofW (cc := cX8_fieldOf) (maxL := 4) (ret := (some (.object "RecordBench$Field"))) (by decide) rfl ?_
  intro p e s m args below meth c s₁ B hml hv
  obtain ⟨rfl, hsz, hP, hK, hD0, hN, hZ⟩ := hv
  have hx := B.exec
  have hb := B.bytes
  have hr := B.returns
  have hts := atoms_spec (ws := wp_X8_fieldOf) B.pre
  have hown : s.vm.findClass RX8 = some m.cls := findClass_of_methodNamed B.named
  have hlocks := B.notSynchronized
  have iRX8 : ∀ w ∈ u_ws RX8 TX8 12, w ∈ wp_X8_fieldOf := by decide +kernel
  subst hsz
  have hD := hD0.self (sz := s.heap.size)
  generalize hAe : va_A [(h0, .inr (10, [.ref t0, .ref r0, .ref m0, .ref x0, v4, v5, v6, v7, v8, .int 0, .int ((-1)), .int 0])), (m0, .inl (cM, 8, .inr (.inr (.inr (.inr (fun _ => none))))))] s.heap.size = A at hD hZ ⊢
  have hA : ∀ q : Nat, s.heap.size ≤ q → A q := fun q h => by rw [← hAe]; exact Or.inr h
  have hS : va_S A s.heap s.heap [] := va_S.rf
  have hP : va_P (dC, dI) vwCl [(h0, .inr (10, [.ref t0, .ref r0, .ref m0, .ref x0, v4, v5, v6, v7, v8, .int 0, .int ((-1)), .int 0])), (m0, .inl (cM, 8, .inr (.inr (.inr (.inr (fun _ => none))))))] s.heap := hP
  have hl := lv_entry ([.ref h0, .int p0, .int p1]) (n := 4) (Nat.le_of_ble_eq_true rfl)
  rw [lg_entry_eq]
  generalize (lg_sl ([.ref h0, .int p0, .int p1]) ++ List.replicate (4 - (lg_sl ([.ref h0, .int p0, .int p1])).length) Slot.unset).toArray = ls at hl ⊢
  have hl : lv_has ls 4 [(0, .ref h0), (1, .int p0), (2, .int p1)] := hl
  refine lv_aload_n hx hb dX8_fieldOf_0 rfl (lv_at hl 0 rfl) ?_
  refine va_get (D := (dC, dI)) (ci := 10) (v := .ref m0) (C := RX8) (T := TX8) (N := 12) hx hb hts iRX8 hown hK hP 0 rfl rfl 2 (by decide) (hts (.fieldLink RX8 24 "RecordBench" "makes" "[LRecordBench$Make;") (by decide +kernel)) (fun _ h9 => h9) rfl dX8_fieldOf_1 ?_
  refine lv_iload_n hx hb dX8_fieldOf_4 rfl (lv_at hl 1 rfl) ?_
  have hFc := va_free (wc := [(m0, .inl (cM, 8, .inr (.inr (.inr (.inr (fun _ => none))))))]) hD hS hA [1] rfl
  refine va_callq (va_runS (As := [.ref m0, .int p0]) (rest := []) ⟨hx, hb, hml, hown, hts⟩ (c_X8_makeOf l dC dI m0 p0 cM s.heap.size) (cwS 2 hts gp_X8_fieldOf_X8_makeOf_136 rfl rfl rfl (by decide +kernel) ⟨Nat.le_of_ble_eq_true rfl, Nat.le_of_ble_eq_true rfl⟩) ⟨Pr.blind _, fun U hU hW => ⟨rfl, Pr.at (hP.sub (ws' := [(m0, .inl (cM, 8, .inr (.inr (.inr (.inr (fun _ => none))))))]) [1] rfl) (hK.sub (tys' := [(cM, .object RX1)]) [0] rfl) (hD.sub (ws' := [(m0, .inl (cM, 8, .inr (.inr (.inr (.inr (fun _ => none))))))]) [1] (by decide) rfl) hN hZ hS hFc hU hW⟩⟩ rfl rfl hl.1 rfl (lv_room (Nat.le_of_ble_eq_true rfl)) dX8_fieldOf_5 ⟨Nat.le_of_ble_eq_true rfl, Nat.le_of_ble_eq_true rfl⟩) hS (fun q _ h => hFc q h) hFc (fun r_1 u t H1 locs ht hvm hw_2 hB hz1 hk1 hS => ?_)
  obtain ⟨hP, hD, hK⟩ := Bq.join (wr := [(h0, .inr (10, [.ref t0, .ref r0, .ref m0, .ref x0, v4, v5, v6, v7, v8, .int 0, .int ((-1)), .int 0]))]) hB ht hvm hP hD [1] [0] rfl rfl (by decide) (by decide) hk1 hFc hK
  generalize H1 = H at hP hS ⊢
  have hP : va_P (dC, dI) vwCl [(h0, .inr (10, [.ref t0, .ref r0, .ref m0, .ref x0, v4, v5, v6, v7, v8, .int 0, .int ((-1)), .int 0])), (m0, .inl (cM, 8, .inr (.inr (.inr (.inr (fun _ => none))))))] H := hP
  have hD : va_D A [(h0, .inr (10, [.ref t0, .ref r0, .ref m0, .ref x0, v4, v5, v6, v7, v8, .int 0, .int ((-1)), .int 0])), (m0, .inl (cM, 8, .inr (.inr (.inr (.inr (fun _ => none))))))] := hD
  have hK : va_K (dC, dI) vwCl [(cM, .object RX1)] s := hK
  try dsimp only at hw_2
  have k_3 := hw_2
  subst k_3
  refine W.eq (g2 := F0 m 8 ls [.null]) rfl ?_
  refine lv_astore_nN (lv' := [(3, .null), (0, .ref h0), (1, .int p0), (2, .int p1)]) hx hb dX8_fieldOf_8 rfl hl (by decide) rfl (fun ls hl => ?_)
  refine lv_aload_nN hx hb dX8_fieldOf_9 rfl (lv_at hl 0 rfl) ?_
  refine lv_ifnonnullN hx hb dX8_fieldOf_10 ?_
  refine lv_null hx hb dX8_fieldOf_13 ?_
  refine lv_goto (tgt := 22) hx hb dX8_fieldOf_14 (by decide) ?_
  have hP9 := hP.sub (ws' := [(h0, .inr (10, [.ref t0, .ref r0, .ref m0, .ref x0, v4, v5, v6, v7, v8, .int 0, .int ((-1)), .int 0])), (m0, .inl (cM, 8, .inr (.inr (.inr (.inr (fun _ => none))))))]) [0, 1] rfl
  have hD9 := hD.sub (ws' := [(h0, .inr (10, [.ref t0, .ref r0, .ref m0, .ref x0, v4, v5, v6, v7, v8, .int 0, .int ((-1)), .int 0])), (m0, .inl (cM, 8, .inr (.inr (.inr (.inr (fun _ => none))))))]) [0, 1] (by decide) rfl
  have hK9 := hK.sub (tys' := []) [] rfl
  exact W.aret (v := .null) hx hb hr (Or.inl ⟨_, rfl⟩) (Or.inl rfl) (fun t ht hW => ⟨⟨none, (), rfl, rfl, by rw [ht]; exact hP9, va_K.moved hW.alike hK9, hD9⟩, hS.F ht⟩) hS.2.2 dX8_fieldOf_22
def wp_X8_clear : List Cond := .code yX8_clear cX8_clear 4 (some .int) :: ([.methodLink RX8 128 yX8_recordOf, .instanceMethod yX8_recordOf, .selects RX8 yX8_recordOf yX8_recordOf, .initialized RX8, .methodLink RX8 76 yX5_size, .instanceMethod yX5_size, .selects RX5 yX5_size yX5_size, .initialized RX5, .methodLink RX8 83 yX5_cut, .instanceMethod yX5_cut, .selects RX5 yX5_cut yX5_cut, .code yX8_recordOf cX8_recordOf 2 (some (.object "RecordBench$Row")), .fieldLink RX8 18 "RecordBench" "records" "[LRecordBench$Row;", .code yX5_size cX5_size 1 (some .int), .fieldLink RX5 21 "RecordBench$Row" "size" "I", .code yX5_cut cX5_cut 2 (some .boolean)] ++ wsX80 ++ wsX50)
set_option maxRecDepth 20000 in
theorem gp_X8_clear_X8_recordOf_128 : GoodIn wp_X8_clear (wsV RX8 128 RX8 yX8_recordOf wp_X8_recordOf) := goodIn_p _ [12] rfl (by decide +kernel)
set_option maxRecDepth 20000 in
theorem gp_X8_clear_X5_size_76 : GoodIn wp_X8_clear (wsV RX8 76 RX5 yX5_size wp_X5_size) := goodIn_p _ [14] rfl (by decide +kernel)
set_option maxRecDepth 20000 in
theorem gp_X8_clear_X5_cut0_83 : GoodIn wp_X8_clear (wsV RX8 83 RX5 yX5_cut wp_X5_cut0) := goodIn_p _ [16] rfl (by decide +kernel)
set_option maxHeartbeats 4000000 in
set_option maxRecDepth 100000 in
theorem c_X8_clear (l : Launch) (dC : Nat → ClassId) (dI : Nat → Nat → Nat) (h0 : Nat) (t0 : Nat) (r0 : Nat) (m0 : Nat) (x0 : Nat) (v4 : Value) (v5 : Value) (v6 : Value) (v7 : Value) (v8 : Value) (cR : ClassId) (fR : Nat → Option Nat) (q0 : Nat) (q1 : Nat) (q2 : Nat) (q3 : Nat) (b0 : Nat) (b1 : Nat) (b2 : Nat) (b3 : Nat) (hq0 : fR 0 = some q0) (hq1 : fR 1 = some q1) (hq2 : fR 2 = some q2) (hq3 : fR 3 = some q3) (p0 : Int32) (sz : Nat) : Met l yX8_clear wp_X8_clear ({ frames := 1, cells := 0, slots := 0, locals := 25 }) (va_Pc [.ref h0, .int p0] (Pr (dC, dI) [(cR, .object RX5)] [(h0, .inr (10, [.ref t0, .ref r0, .ref m0, .ref x0, v4, v5, v6, v7, v8, .int 0, .int ((-1)), .int 0])), (r0, .inl (cR, 4, .inr (.inr (.inr (.inr fR))))), (q0, .inr (7, [.ref b0, .int 0])), (q1, .inr (7, [.ref b1, .int 0])), (q2, .inr (7, [.ref b2, .int 0])), (q3, .inr (7, [.ref b3, .int 0]))] sz)) (va_Qi (fun r : Int32 => (fun _ : Unit => r = if p0 < 0 ∨ 4 ≤ p0 then -1 else 0)) (Bq (dC, dI) (fun _ : Unit => []) (fun _ : Unit => []) (va_A [(h0, .inr (10, [.ref t0, .ref r0, .ref m0, .ref x0, v4, v5, v6, v7, v8, .int 0, .int ((-1)), .int 0])), (r0, .inl (cR, 4, .inr (.inr (.inr (.inr fR))))), (q0, .inr (7, [.ref b0, .int 0])), (q1, .inr (7, [.ref b1, .int 0])), (q2, .inr (7, [.ref b2, .int 0])), (q3, .inr (7, [.ref b3, .int 0]))] sz)) (va_A [(h0, .inr (10, [.ref t0, .ref r0, .ref m0, .ref x0, v4, v5, v6, v7, v8, .int 0, .int ((-1)), .int 0])), (r0, .inl (cR, 4, .inr (.inr (.inr (.inr fR))))), (q0, .inr (7, [.ref b0, .int 0])), (q1, .inr (7, [.ref b1, .int 0])), (q2, .inr (7, [.ref b2, .int 0])), (q3, .inr (7, [.ref b3, .int 0]))] sz)) 0 0 (va_A [(h0, .inr (10, [.ref t0, .ref r0, .ref m0, .ref x0, v4, v5, v6, v7, v8, .int 0, .int ((-1)), .int 0])), (r0, .inl (cR, 4, .inr (.inr (.inr (.inr fR))))), (q0, .inr (7, [.ref b0, .int 0])), (q1, .inr (7, [.ref b1, .int 0])), (q2, .inr (7, [.ref b2, .int 0])), (q3, .inr (7, [.ref b3, .int 0]))] sz) := by
  refine Met.ofW (cc := cX8_clear) (maxL := 4) (ret := (some .int)) (by decide) rfl ?_
  intro p e s m args below meth c s₁ B hml hv
  obtain ⟨rfl, hsz, hP, hK, hD0, hN, hZ⟩ := hv
  have hx := B.exec
  have hb := B.bytes
  have hr := B.returns
  have hts := atoms_spec (ws := wp_X8_clear) B.pre
  have hown : s.vm.findClass RX8 = some m.cls := findClass_of_methodNamed B.named
  have hlocks := B.notSynchronized
  subst hsz
  have hD := hD0.self (sz := s.heap.size)
  generalize hAe : va_A [(h0, .inr (10, [.ref t0, .ref r0, .ref m0, .ref x0, v4, v5, v6, v7, v8, .int 0, .int ((-1)), .int 0])), (r0, .inl (cR, 4, .inr (.inr (.inr (.inr fR))))), (q0, .inr (7, [.ref b0, .int 0])), (q1, .inr (7, [.ref b1, .int 0])), (q2, .inr (7, [.ref b2, .int 0])), (q3, .inr (7, [.ref b3, .int 0]))] s.heap.size = A at hD hZ ⊢
  have hA : ∀ q : Nat, s.heap.size ≤ q → A q := fun q h => by rw [← hAe]; exact Or.inr h
  have hS : va_S A s.heap s.heap [] := va_S.rf
  have hP : va_P (dC, dI) vwCl [(h0, .inr (10, [.ref t0, .ref r0, .ref m0, .ref x0, v4, v5, v6, v7, v8, .int 0, .int ((-1)), .int 0])), (r0, .inl (cR, 4, .inr (.inr (.inr (.inr fR))))), (q0, .inr (7, [.ref b0, .int 0])), (q1, .inr (7, [.ref b1, .int 0])), (q2, .inr (7, [.ref b2, .int 0])), (q3, .inr (7, [.ref b3, .int 0]))] s.heap := hP
  have hl := lv_entry ([.ref h0, .int p0]) (n := 4) (Nat.le_of_ble_eq_true rfl)
  rw [lg_entry_eq]
  generalize (lg_sl ([.ref h0, .int p0]) ++ List.replicate (4 - (lg_sl ([.ref h0, .int p0])).length) Slot.unset).toArray = ls at hl ⊢
  have hl : lv_has ls 4 [(0, .ref h0), (1, .int p0)] := hl
  refine lv_aload_n hx hb dX8_clear_0 rfl (lv_at hl 0 rfl) ?_
  refine lv_iload_n hx hb dX8_clear_1 rfl (lv_at hl 1 rfl) ?_
  have hFc := va_free (wc := [(h0, .inr (10, [.ref t0, .ref r0, .ref m0, .ref x0, v4, v5, v6, v7, v8, .int 0, .int ((-1)), .int 0])), (r0, .inl (cR, 4, .inr (.inr (.inr (.inr fR)))))]) hD hS hA [0, 1] rfl
  refine va_callq (va_runV (As := [.int p0]) (rest := []) ⟨hx, hb, hml, hown, hts⟩ (c_X8_recordOf l dC dI h0 t0 r0 m0 x0 (v4) (v5) (v6) (v7) (v8) cR fR q0 q1 q2 q3 (hq0) (hq1) (hq2) (hq3) p0 s.heap.size) (cwV 1 hts gp_X8_clear_X8_recordOf_128 rfl rfl rfl (by decide +kernel) ⟨Nat.le_of_ble_eq_true rfl, Nat.le_of_ble_eq_true rfl⟩) ⟨Pr.blind _, va_recv hK hP (ci := 10) (q0 := 0) rfl rfl, fun U hU hW => ⟨rfl, Pr.at (hP.sub (ws' := [(h0, .inr (10, [.ref t0, .ref r0, .ref m0, .ref x0, v4, v5, v6, v7, v8, .int 0, .int ((-1)), .int 0])), (r0, .inl (cR, 4, .inr (.inr (.inr (.inr fR)))))]) [0, 1] rfl) (hK.sub (tys' := [(cR, .object RX5)]) [0] rfl) (hD.sub (ws' := [(h0, .inr (10, [.ref t0, .ref r0, .ref m0, .ref x0, v4, v5, v6, v7, v8, .int 0, .int ((-1)), .int 0])), (r0, .inl (cR, 4, .inr (.inr (.inr (.inr fR)))))]) [0, 1] (by decide) rfl) hN hZ hS hFc hU hW⟩⟩ rfl rfl hl.1 rfl (lv_room (Nat.le_of_ble_eq_true rfl)) dX8_clear_2 ⟨Nat.le_of_ble_eq_true rfl, Nat.le_of_ble_eq_true rfl⟩) hS (fun q _ h => hFc q h) hFc (fun r_1 u t H1 locs ht hvm hw_2 hB hz1 hk1 hS => ?_)
  obtain ⟨hP, hD, hK⟩ := Bq.join (wr := [(q0, .inr (7, [.ref b0, .int 0])), (q1, .inr (7, [.ref b1, .int 0])), (q2, .inr (7, [.ref b2, .int 0])), (q3, .inr (7, [.ref b3, .int 0]))]) hB ht hvm hP hD [0, 1] [2, 3, 4, 5] rfl rfl (by decide) (by decide) hk1 hFc hK
  generalize H1 = H at hP hS ⊢
  have hP : va_P (dC, dI) vwCl [(q0, .inr (7, [.ref b0, .int 0])), (q1, .inr (7, [.ref b1, .int 0])), (q2, .inr (7, [.ref b2, .int 0])), (q3, .inr (7, [.ref b3, .int 0])), (h0, .inr (10, [.ref t0, .ref r0, .ref m0, .ref x0, v4, v5, v6, v7, v8, .int 0, .int (-1), .int 0])), (r0, .inl (cR, 4, .inr (.inr (.inr (.inr fR)))))] H := hP
  have hD : va_D A [(q0, .inr (7, [.ref b0, .int 0])), (q1, .inr (7, [.ref b1, .int 0])), (q2, .inr (7, [.ref b2, .int 0])), (q3, .inr (7, [.ref b3, .int 0])), (h0, .inr (10, [.ref t0, .ref r0, .ref m0, .ref x0, v4, v5, v6, v7, v8, .int 0, .int (-1), .int 0])), (r0, .inl (cR, 4, .inr (.inr (.inr (.inr fR)))))] := hD
  have hK : va_K (dC, dI) vwCl [(cR, .object RX5)] s := hK
  try dsimp only at hw_2
  have k_3 := hw_2
  rcases k_3 with ⟨ho, rfl⟩ | ⟨ho, rfl | rfl | rfl | rfl⟩
  · refine W.eq (g2 := F0 m 5 ls [.null]) rfl ?_
    refine lv_astore_nN (lv' := [(2, .null), (0, .ref h0), (1, .int p0)]) hx hb dX8_clear_5 rfl hl (by decide) rfl (fun ls hl => ?_)
    refine lv_aload_nN hx hb dX8_clear_6 rfl (lv_at hl 0 rfl) ?_
    refine lv_ifnonnullN hx hb dX8_clear_7 ?_
    refine lv_iconst (v := (-1)) hx hb dX8_clear_10 (by decide) ?_
    have hP9 := hP.sub (ws' := []) [] rfl
    have hD9 := hD.sub (ws' := []) [] (by decide) rfl
    have hK9 := hK.sub (tys' := []) [] rfl
    exact W.iret (v := (-1)) hx hb hr (fun t ht hW => ⟨⟨(-1), (), rfl, (if_pos ho).symm, by rw [ht]; exact hP9, va_K.moved hW.alike hK9, hD9⟩, hS.F ht⟩) hS.2.2 dX8_clear_11
  · refine W.eq (g2 := F0 m 5 ls [.ref q0]) rfl ?_
    refine lv_astore_n (lv' := [(2, .ref q0), (0, .ref h0), (1, .int p0)]) hx hb dX8_clear_5 rfl hl (by decide) rfl (fun ls hl => ?_)
    refine lv_aload_n hx hb dX8_clear_6 rfl (lv_at hl 0 rfl) ?_
    refine lv_ifnonnull (tgt := 12) hx hb dX8_clear_7 (by decide) ?_
    refine lv_aload_n hx hb dX8_clear_12 rfl (lv_at hl 0 rfl) ?_
    have hFc := va_free (wc := [(q0, .inr (7, [.ref b0, .int 0]))]) hD hS hA [0] rfl
    refine va_calli (va_runV (As := []) (rest := []) ⟨hx, hb, hml, hown, hts⟩ (c_X5_size l dC dI q0 b0 0 H.size) (cwV 0 hts gp_X8_clear_X5_size_76 rfl rfl rfl (by decide +kernel) ⟨Nat.le_of_ble_eq_true rfl, Nat.le_of_ble_eq_true rfl⟩) ⟨Pr.blind _, va_recv hK hP (ci := 7) (q0 := 0) rfl rfl, fun U hU hW => ⟨rfl, Pr.at (hP.sub (ws' := [(q0, .inr (7, [.ref b0, .int 0]))]) [0] rfl) (hK.sub (tys' := []) [] rfl) (hD.sub (ws' := [(q0, .inr (7, [.ref b0, .int 0]))]) [0] (by decide) rfl) hN hZ hS hFc hU hW⟩⟩ rfl rfl hl.1 rfl (lv_room (Nat.le_of_ble_eq_true rfl)) dX8_clear_13 ⟨Nat.le_of_ble_eq_true rfl, Nat.le_of_ble_eq_true rfl⟩) hS (fun q _ h => hFc q h) hFc (fun r_4 u t H1 locs ht hvm hw_5 hB hz1 hk1 hS => ?_)
    obtain ⟨hP, hD, hK⟩ := Bq.join (wr := [(q1, .inr (7, [.ref b1, .int 0])), (q2, .inr (7, [.ref b2, .int 0])), (q3, .inr (7, [.ref b3, .int 0])), (h0, .inr (10, [.ref t0, .ref r0, .ref m0, .ref x0, v4, v5, v6, v7, v8, .int 0, .int (-1), .int 0])), (r0, .inl (cR, 4, .inr (.inr (.inr (.inr fR)))))]) hB ht hvm hP hD [0] [1, 2, 3, 4, 5] rfl rfl (by decide) (by decide) hk1 hFc hK
    generalize H1 = H at hP hS ⊢
    have hP : va_P (dC, dI) vwCl [(q1, .inr (7, [.ref b1, .int 0])), (q2, .inr (7, [.ref b2, .int 0])), (q3, .inr (7, [.ref b3, .int 0])), (h0, .inr (10, [.ref t0, .ref r0, .ref m0, .ref x0, v4, v5, v6, v7, v8, .int 0, .int (-1), .int 0])), (r0, .inl (cR, 4, .inr (.inr (.inr (.inr fR))))), (q0, .inr (7, [.ref b0, .int 0]))] H := hP
    have hD : va_D A [(q1, .inr (7, [.ref b1, .int 0])), (q2, .inr (7, [.ref b2, .int 0])), (q3, .inr (7, [.ref b3, .int 0])), (h0, .inr (10, [.ref t0, .ref r0, .ref m0, .ref x0, v4, v5, v6, v7, v8, .int 0, .int (-1), .int 0])), (r0, .inl (cR, 4, .inr (.inr (.inr (.inr fR))))), (q0, .inr (7, [.ref b0, .int 0]))] := hD
    have hK : va_K (dC, dI) vwCl [(cR, .object RX5)] s := hK
    try dsimp only at hw_5
    have k_6 := hw_5
    refine W_toi (y := 0) k_6 ?_
    refine lv_istore_n (lv' := [(3, .int 0), (2, .ref q0), (0, .ref h0), (1, .int p0)]) hx hb dX8_clear_16 rfl hl (by decide) rfl (fun ls hl => ?_)
    refine lv_aload_n hx hb dX8_clear_17 rfl (lv_at hl 1 rfl) ?_
    refine lv_iconst (v := 0) hx hb dX8_clear_18 (by decide) ?_
    have hFc := va_free (wc := [(q0, .inr (7, [.ref b0, .int 0]))]) hD hS hA [5] rfl
    refine va_calli (va_runV (As := [.int 0]) (rest := []) ⟨hx, hb, hml, hown, hts⟩ (c_X5_cut0 l dC dI q0 b0 H.size) (cwV 1 hts gp_X8_clear_X5_cut0_83 rfl rfl rfl (by decide +kernel) ⟨Nat.le_of_ble_eq_true rfl, Nat.le_of_ble_eq_true rfl⟩) ⟨Pr.blind _, va_recv hK hP (ci := 7) (q0 := 5) rfl rfl, fun U hU hW => ⟨rfl, Pr.at (hP.sub (ws' := [(q0, .inr (7, [.ref b0, .int 0]))]) [5] rfl) (hK.sub (tys' := []) [] rfl) (hD.sub (ws' := [(q0, .inr (7, [.ref b0, .int 0]))]) [5] (by decide) rfl) hN hZ hS hFc hU hW⟩⟩ rfl rfl hl.1 rfl (lv_room (Nat.le_of_ble_eq_true rfl)) dX8_clear_19 ⟨Nat.le_of_ble_eq_true rfl, Nat.le_of_ble_eq_true rfl⟩) hS (fun q _ h => hFc q h) hFc (fun r_7 u t H1 locs ht hvm hw_8 hB hz1 hk1 hS => ?_)
    obtain ⟨hP, hD, hK⟩ := Bq.join (wr := [(q1, .inr (7, [.ref b1, .int 0])), (q2, .inr (7, [.ref b2, .int 0])), (q3, .inr (7, [.ref b3, .int 0])), (h0, .inr (10, [.ref t0, .ref r0, .ref m0, .ref x0, v4, v5, v6, v7, v8, .int 0, .int (-1), .int 0])), (r0, .inl (cR, 4, .inr (.inr (.inr (.inr fR)))))]) hB ht hvm hP hD [5] [0, 1, 2, 3, 4] rfl rfl (by decide) (by decide) hk1 hFc hK
    generalize H1 = H at hP hS ⊢
    have hP : va_P (dC, dI) vwCl [(q1, .inr (7, [.ref b1, .int 0])), (q2, .inr (7, [.ref b2, .int 0])), (q3, .inr (7, [.ref b3, .int 0])), (h0, .inr (10, [.ref t0, .ref r0, .ref m0, .ref x0, v4, v5, v6, v7, v8, .int 0, .int (-1), .int 0])), (r0, .inl (cR, 4, .inr (.inr (.inr (.inr fR))))), (q0, .inr (7, [.ref b0, .int 0]))] H := hP
    have hD : va_D A [(q1, .inr (7, [.ref b1, .int 0])), (q2, .inr (7, [.ref b2, .int 0])), (q3, .inr (7, [.ref b3, .int 0])), (h0, .inr (10, [.ref t0, .ref r0, .ref m0, .ref x0, v4, v5, v6, v7, v8, .int 0, .int (-1), .int 0])), (r0, .inl (cR, 4, .inr (.inr (.inr (.inr fR))))), (q0, .inr (7, [.ref b0, .int 0]))] := hD
    have hK : va_K (dC, dI) vwCl [(cR, .object RX5)] s := hK
    try dsimp only at hw_8
    have k_9 := hw_8
    refine W_toi (y := 1) k_9 ?_
    refine lv_pop hx hb dX8_clear_22 rfl ?_
    refine lv_iload_n hx hb dX8_clear_23 rfl (lv_at hl 0 rfl) ?_
    have hP9 := hP.sub (ws' := []) [] rfl
    have hD9 := hD.sub (ws' := []) [] (by decide) rfl
    have hK9 := hK.sub (tys' := []) [] rfl
    exact W.iret (v := 0) hx hb hr (fun t ht hW => ⟨⟨0, (), rfl, (if_neg ho).symm, by rw [ht]; exact hP9, va_K.moved hW.alike hK9, hD9⟩, hS.F ht⟩) hS.2.2 dX8_clear_24
  · refine W.eq (g2 := F0 m 5 ls [.ref q1]) rfl ?_
    refine lv_astore_n (lv' := [(2, .ref q1), (0, .ref h0), (1, .int p0)]) hx hb dX8_clear_5 rfl hl (by decide) rfl (fun ls hl => ?_)
    refine lv_aload_n hx hb dX8_clear_6 rfl (lv_at hl 0 rfl) ?_
    refine lv_ifnonnull (tgt := 12) hx hb dX8_clear_7 (by decide) ?_
    refine lv_aload_n hx hb dX8_clear_12 rfl (lv_at hl 0 rfl) ?_
    have hFc := va_free (wc := [(q1, .inr (7, [.ref b1, .int 0]))]) hD hS hA [1] rfl
    refine va_calli (va_runV (As := []) (rest := []) ⟨hx, hb, hml, hown, hts⟩ (c_X5_size l dC dI q1 b1 0 H.size) (cwV 0 hts gp_X8_clear_X5_size_76 rfl rfl rfl (by decide +kernel) ⟨Nat.le_of_ble_eq_true rfl, Nat.le_of_ble_eq_true rfl⟩) ⟨Pr.blind _, va_recv hK hP (ci := 7) (q0 := 1) rfl rfl, fun U hU hW => ⟨rfl, Pr.at (hP.sub (ws' := [(q1, .inr (7, [.ref b1, .int 0]))]) [1] rfl) (hK.sub (tys' := []) [] rfl) (hD.sub (ws' := [(q1, .inr (7, [.ref b1, .int 0]))]) [1] (by decide) rfl) hN hZ hS hFc hU hW⟩⟩ rfl rfl hl.1 rfl (lv_room (Nat.le_of_ble_eq_true rfl)) dX8_clear_13 ⟨Nat.le_of_ble_eq_true rfl, Nat.le_of_ble_eq_true rfl⟩) hS (fun q _ h => hFc q h) hFc (fun r_10 u t H1 locs ht hvm hw_11 hB hz1 hk1 hS => ?_)
    obtain ⟨hP, hD, hK⟩ := Bq.join (wr := [(q0, .inr (7, [.ref b0, .int 0])), (q2, .inr (7, [.ref b2, .int 0])), (q3, .inr (7, [.ref b3, .int 0])), (h0, .inr (10, [.ref t0, .ref r0, .ref m0, .ref x0, v4, v5, v6, v7, v8, .int 0, .int (-1), .int 0])), (r0, .inl (cR, 4, .inr (.inr (.inr (.inr fR)))))]) hB ht hvm hP hD [1] [0, 2, 3, 4, 5] rfl rfl (by decide) (by decide) hk1 hFc hK
    generalize H1 = H at hP hS ⊢
    have hP : va_P (dC, dI) vwCl [(q0, .inr (7, [.ref b0, .int 0])), (q2, .inr (7, [.ref b2, .int 0])), (q3, .inr (7, [.ref b3, .int 0])), (h0, .inr (10, [.ref t0, .ref r0, .ref m0, .ref x0, v4, v5, v6, v7, v8, .int 0, .int (-1), .int 0])), (r0, .inl (cR, 4, .inr (.inr (.inr (.inr fR))))), (q1, .inr (7, [.ref b1, .int 0]))] H := hP
    have hD : va_D A [(q0, .inr (7, [.ref b0, .int 0])), (q2, .inr (7, [.ref b2, .int 0])), (q3, .inr (7, [.ref b3, .int 0])), (h0, .inr (10, [.ref t0, .ref r0, .ref m0, .ref x0, v4, v5, v6, v7, v8, .int 0, .int (-1), .int 0])), (r0, .inl (cR, 4, .inr (.inr (.inr (.inr fR))))), (q1, .inr (7, [.ref b1, .int 0]))] := hD
    have hK : va_K (dC, dI) vwCl [(cR, .object RX5)] s := hK
    try dsimp only at hw_11
    have k_12 := hw_11
    refine W_toi (y := 0) k_12 ?_
    refine lv_istore_n (lv' := [(3, .int 0), (2, .ref q1), (0, .ref h0), (1, .int p0)]) hx hb dX8_clear_16 rfl hl (by decide) rfl (fun ls hl => ?_)
    refine lv_aload_n hx hb dX8_clear_17 rfl (lv_at hl 1 rfl) ?_
    refine lv_iconst (v := 0) hx hb dX8_clear_18 (by decide) ?_
    have hFc := va_free (wc := [(q1, .inr (7, [.ref b1, .int 0]))]) hD hS hA [5] rfl
    refine va_calli (va_runV (As := [.int 0]) (rest := []) ⟨hx, hb, hml, hown, hts⟩ (c_X5_cut0 l dC dI q1 b1 H.size) (cwV 1 hts gp_X8_clear_X5_cut0_83 rfl rfl rfl (by decide +kernel) ⟨Nat.le_of_ble_eq_true rfl, Nat.le_of_ble_eq_true rfl⟩) ⟨Pr.blind _, va_recv hK hP (ci := 7) (q0 := 5) rfl rfl, fun U hU hW => ⟨rfl, Pr.at (hP.sub (ws' := [(q1, .inr (7, [.ref b1, .int 0]))]) [5] rfl) (hK.sub (tys' := []) [] rfl) (hD.sub (ws' := [(q1, .inr (7, [.ref b1, .int 0]))]) [5] (by decide) rfl) hN hZ hS hFc hU hW⟩⟩ rfl rfl hl.1 rfl (lv_room (Nat.le_of_ble_eq_true rfl)) dX8_clear_19 ⟨Nat.le_of_ble_eq_true rfl, Nat.le_of_ble_eq_true rfl⟩) hS (fun q _ h => hFc q h) hFc (fun r_13 u t H1 locs ht hvm hw_14 hB hz1 hk1 hS => ?_)
    obtain ⟨hP, hD, hK⟩ := Bq.join (wr := [(q0, .inr (7, [.ref b0, .int 0])), (q2, .inr (7, [.ref b2, .int 0])), (q3, .inr (7, [.ref b3, .int 0])), (h0, .inr (10, [.ref t0, .ref r0, .ref m0, .ref x0, v4, v5, v6, v7, v8, .int 0, .int (-1), .int 0])), (r0, .inl (cR, 4, .inr (.inr (.inr (.inr fR)))))]) hB ht hvm hP hD [5] [0, 1, 2, 3, 4] rfl rfl (by decide) (by decide) hk1 hFc hK
    generalize H1 = H at hP hS ⊢
    have hP : va_P (dC, dI) vwCl [(q0, .inr (7, [.ref b0, .int 0])), (q2, .inr (7, [.ref b2, .int 0])), (q3, .inr (7, [.ref b3, .int 0])), (h0, .inr (10, [.ref t0, .ref r0, .ref m0, .ref x0, v4, v5, v6, v7, v8, .int 0, .int (-1), .int 0])), (r0, .inl (cR, 4, .inr (.inr (.inr (.inr fR))))), (q1, .inr (7, [.ref b1, .int 0]))] H := hP
    have hD : va_D A [(q0, .inr (7, [.ref b0, .int 0])), (q2, .inr (7, [.ref b2, .int 0])), (q3, .inr (7, [.ref b3, .int 0])), (h0, .inr (10, [.ref t0, .ref r0, .ref m0, .ref x0, v4, v5, v6, v7, v8, .int 0, .int (-1), .int 0])), (r0, .inl (cR, 4, .inr (.inr (.inr (.inr fR))))), (q1, .inr (7, [.ref b1, .int 0]))] := hD
    have hK : va_K (dC, dI) vwCl [(cR, .object RX5)] s := hK
    try dsimp only at hw_14
    have k_15 := hw_14
    refine W_toi (y := 1) k_15 ?_
    refine lv_pop hx hb dX8_clear_22 rfl ?_
    refine lv_iload_n hx hb dX8_clear_23 rfl (lv_at hl 0 rfl) ?_
    have hP9 := hP.sub (ws' := []) [] rfl
    have hD9 := hD.sub (ws' := []) [] (by decide) rfl
    have hK9 := hK.sub (tys' := []) [] rfl
    exact W.iret (v := 0) hx hb hr (fun t ht hW => ⟨⟨0, (), rfl, (if_neg ho).symm, by rw [ht]; exact hP9, va_K.moved hW.alike hK9, hD9⟩, hS.F ht⟩) hS.2.2 dX8_clear_24
  · refine W.eq (g2 := F0 m 5 ls [.ref q2]) rfl ?_
    refine lv_astore_n (lv' := [(2, .ref q2), (0, .ref h0), (1, .int p0)]) hx hb dX8_clear_5 rfl hl (by decide) rfl (fun ls hl => ?_)
    refine lv_aload_n hx hb dX8_clear_6 rfl (lv_at hl 0 rfl) ?_
    refine lv_ifnonnull (tgt := 12) hx hb dX8_clear_7 (by decide) ?_
    refine lv_aload_n hx hb dX8_clear_12 rfl (lv_at hl 0 rfl) ?_
    have hFc := va_free (wc := [(q2, .inr (7, [.ref b2, .int 0]))]) hD hS hA [2] rfl
    refine va_calli (va_runV (As := []) (rest := []) ⟨hx, hb, hml, hown, hts⟩ (c_X5_size l dC dI q2 b2 0 H.size) (cwV 0 hts gp_X8_clear_X5_size_76 rfl rfl rfl (by decide +kernel) ⟨Nat.le_of_ble_eq_true rfl, Nat.le_of_ble_eq_true rfl⟩) ⟨Pr.blind _, va_recv hK hP (ci := 7) (q0 := 2) rfl rfl, fun U hU hW => ⟨rfl, Pr.at (hP.sub (ws' := [(q2, .inr (7, [.ref b2, .int 0]))]) [2] rfl) (hK.sub (tys' := []) [] rfl) (hD.sub (ws' := [(q2, .inr (7, [.ref b2, .int 0]))]) [2] (by decide) rfl) hN hZ hS hFc hU hW⟩⟩ rfl rfl hl.1 rfl (lv_room (Nat.le_of_ble_eq_true rfl)) dX8_clear_13 ⟨Nat.le_of_ble_eq_true rfl, Nat.le_of_ble_eq_true rfl⟩) hS (fun q _ h => hFc q h) hFc (fun r_16 u t H1 locs ht hvm hw_17 hB hz1 hk1 hS => ?_)
    obtain ⟨hP, hD, hK⟩ := Bq.join (wr := [(q0, .inr (7, [.ref b0, .int 0])), (q1, .inr (7, [.ref b1, .int 0])), (q3, .inr (7, [.ref b3, .int 0])), (h0, .inr (10, [.ref t0, .ref r0, .ref m0, .ref x0, v4, v5, v6, v7, v8, .int 0, .int (-1), .int 0])), (r0, .inl (cR, 4, .inr (.inr (.inr (.inr fR)))))]) hB ht hvm hP hD [2] [0, 1, 3, 4, 5] rfl rfl (by decide) (by decide) hk1 hFc hK
    generalize H1 = H at hP hS ⊢
    have hP : va_P (dC, dI) vwCl [(q0, .inr (7, [.ref b0, .int 0])), (q1, .inr (7, [.ref b1, .int 0])), (q3, .inr (7, [.ref b3, .int 0])), (h0, .inr (10, [.ref t0, .ref r0, .ref m0, .ref x0, v4, v5, v6, v7, v8, .int 0, .int (-1), .int 0])), (r0, .inl (cR, 4, .inr (.inr (.inr (.inr fR))))), (q2, .inr (7, [.ref b2, .int 0]))] H := hP
    have hD : va_D A [(q0, .inr (7, [.ref b0, .int 0])), (q1, .inr (7, [.ref b1, .int 0])), (q3, .inr (7, [.ref b3, .int 0])), (h0, .inr (10, [.ref t0, .ref r0, .ref m0, .ref x0, v4, v5, v6, v7, v8, .int 0, .int (-1), .int 0])), (r0, .inl (cR, 4, .inr (.inr (.inr (.inr fR))))), (q2, .inr (7, [.ref b2, .int 0]))] := hD
    have hK : va_K (dC, dI) vwCl [(cR, .object RX5)] s := hK
    try dsimp only at hw_17
    have k_18 := hw_17
    refine W_toi (y := 0) k_18 ?_
    refine lv_istore_n (lv' := [(3, .int 0), (2, .ref q2), (0, .ref h0), (1, .int p0)]) hx hb dX8_clear_16 rfl hl (by decide) rfl (fun ls hl => ?_)
    refine lv_aload_n hx hb dX8_clear_17 rfl (lv_at hl 1 rfl) ?_
    refine lv_iconst (v := 0) hx hb dX8_clear_18 (by decide) ?_
    have hFc := va_free (wc := [(q2, .inr (7, [.ref b2, .int 0]))]) hD hS hA [5] rfl
    refine va_calli (va_runV (As := [.int 0]) (rest := []) ⟨hx, hb, hml, hown, hts⟩ (c_X5_cut0 l dC dI q2 b2 H.size) (cwV 1 hts gp_X8_clear_X5_cut0_83 rfl rfl rfl (by decide +kernel) ⟨Nat.le_of_ble_eq_true rfl, Nat.le_of_ble_eq_true rfl⟩) ⟨Pr.blind _, va_recv hK hP (ci := 7) (q0 := 5) rfl rfl, fun U hU hW => ⟨rfl, Pr.at (hP.sub (ws' := [(q2, .inr (7, [.ref b2, .int 0]))]) [5] rfl) (hK.sub (tys' := []) [] rfl) (hD.sub (ws' := [(q2, .inr (7, [.ref b2, .int 0]))]) [5] (by decide) rfl) hN hZ hS hFc hU hW⟩⟩ rfl rfl hl.1 rfl (lv_room (Nat.le_of_ble_eq_true rfl)) dX8_clear_19 ⟨Nat.le_of_ble_eq_true rfl, Nat.le_of_ble_eq_true rfl⟩) hS (fun q _ h => hFc q h) hFc (fun r_19 u t H1 locs ht hvm hw_20 hB hz1 hk1 hS => ?_)
    obtain ⟨hP, hD, hK⟩ := Bq.join (wr := [(q0, .inr (7, [.ref b0, .int 0])), (q1, .inr (7, [.ref b1, .int 0])), (q3, .inr (7, [.ref b3, .int 0])), (h0, .inr (10, [.ref t0, .ref r0, .ref m0, .ref x0, v4, v5, v6, v7, v8, .int 0, .int (-1), .int 0])), (r0, .inl (cR, 4, .inr (.inr (.inr (.inr fR)))))]) hB ht hvm hP hD [5] [0, 1, 2, 3, 4] rfl rfl (by decide) (by decide) hk1 hFc hK
    generalize H1 = H at hP hS ⊢
    have hP : va_P (dC, dI) vwCl [(q0, .inr (7, [.ref b0, .int 0])), (q1, .inr (7, [.ref b1, .int 0])), (q3, .inr (7, [.ref b3, .int 0])), (h0, .inr (10, [.ref t0, .ref r0, .ref m0, .ref x0, v4, v5, v6, v7, v8, .int 0, .int (-1), .int 0])), (r0, .inl (cR, 4, .inr (.inr (.inr (.inr fR))))), (q2, .inr (7, [.ref b2, .int 0]))] H := hP
    have hD : va_D A [(q0, .inr (7, [.ref b0, .int 0])), (q1, .inr (7, [.ref b1, .int 0])), (q3, .inr (7, [.ref b3, .int 0])), (h0, .inr (10, [.ref t0, .ref r0, .ref m0, .ref x0, v4, v5, v6, v7, v8, .int 0, .int (-1), .int 0])), (r0, .inl (cR, 4, .inr (.inr (.inr (.inr fR))))), (q2, .inr (7, [.ref b2, .int 0]))] := hD
    have hK : va_K (dC, dI) vwCl [(cR, .object RX5)] s := hK
    try dsimp only at hw_20
    have k_21 := hw_20
    refine W_toi (y := 1) k_21 ?_
    refine lv_pop hx hb dX8_clear_22 rfl ?_
    refine lv_iload_n hx hb dX8_clear_23 rfl (lv_at hl 0 rfl) ?_
    have hP9 := hP.sub (ws' := []) [] rfl
    have hD9 := hD.sub (ws' := []) [] (by decide) rfl
    have hK9 := hK.sub (tys' := []) [] rfl
    exact W.iret (v := 0) hx hb hr (fun t ht hW => ⟨⟨0, (), rfl, (if_neg ho).symm, by rw [ht]; exact hP9, va_K.moved hW.alike hK9, hD9⟩, hS.F ht⟩) hS.2.2 dX8_clear_24
  · refine W.eq (g2 := F0 m 5 ls [.ref q3]) rfl ?_
    refine lv_astore_n (lv' := [(2, .ref q3), (0, .ref h0), (1, .int p0)]) hx hb dX8_clear_5 rfl hl (by decide) rfl (fun ls hl => ?_)
    refine lv_aload_n hx hb dX8_clear_6 rfl (lv_at hl 0 rfl) ?_
    refine lv_ifnonnull (tgt := 12) hx hb dX8_clear_7 (by decide) ?_
    refine lv_aload_n hx hb dX8_clear_12 rfl (lv_at hl 0 rfl) ?_
    have hFc := va_free (wc := [(q3, .inr (7, [.ref b3, .int 0]))]) hD hS hA [3] rfl
    refine va_calli (va_runV (As := []) (rest := []) ⟨hx, hb, hml, hown, hts⟩ (c_X5_size l dC dI q3 b3 0 H.size) (cwV 0 hts gp_X8_clear_X5_size_76 rfl rfl rfl (by decide +kernel) ⟨Nat.le_of_ble_eq_true rfl, Nat.le_of_ble_eq_true rfl⟩) ⟨Pr.blind _, va_recv hK hP (ci := 7) (q0 := 3) rfl rfl, fun U hU hW => ⟨rfl, Pr.at (hP.sub (ws' := [(q3, .inr (7, [.ref b3, .int 0]))]) [3] rfl) (hK.sub (tys' := []) [] rfl) (hD.sub (ws' := [(q3, .inr (7, [.ref b3, .int 0]))]) [3] (by decide) rfl) hN hZ hS hFc hU hW⟩⟩ rfl rfl hl.1 rfl (lv_room (Nat.le_of_ble_eq_true rfl)) dX8_clear_13 ⟨Nat.le_of_ble_eq_true rfl, Nat.le_of_ble_eq_true rfl⟩) hS (fun q _ h => hFc q h) hFc (fun r_22 u t H1 locs ht hvm hw_23 hB hz1 hk1 hS => ?_)
    obtain ⟨hP, hD, hK⟩ := Bq.join (wr := [(q0, .inr (7, [.ref b0, .int 0])), (q1, .inr (7, [.ref b1, .int 0])), (q2, .inr (7, [.ref b2, .int 0])), (h0, .inr (10, [.ref t0, .ref r0, .ref m0, .ref x0, v4, v5, v6, v7, v8, .int 0, .int (-1), .int 0])), (r0, .inl (cR, 4, .inr (.inr (.inr (.inr fR)))))]) hB ht hvm hP hD [3] [0, 1, 2, 4, 5] rfl rfl (by decide) (by decide) hk1 hFc hK
    generalize H1 = H at hP hS ⊢
    have hP : va_P (dC, dI) vwCl [(q0, .inr (7, [.ref b0, .int 0])), (q1, .inr (7, [.ref b1, .int 0])), (q2, .inr (7, [.ref b2, .int 0])), (h0, .inr (10, [.ref t0, .ref r0, .ref m0, .ref x0, v4, v5, v6, v7, v8, .int 0, .int (-1), .int 0])), (r0, .inl (cR, 4, .inr (.inr (.inr (.inr fR))))), (q3, .inr (7, [.ref b3, .int 0]))] H := hP
    have hD : va_D A [(q0, .inr (7, [.ref b0, .int 0])), (q1, .inr (7, [.ref b1, .int 0])), (q2, .inr (7, [.ref b2, .int 0])), (h0, .inr (10, [.ref t0, .ref r0, .ref m0, .ref x0, v4, v5, v6, v7, v8, .int 0, .int (-1), .int 0])), (r0, .inl (cR, 4, .inr (.inr (.inr (.inr fR))))), (q3, .inr (7, [.ref b3, .int 0]))] := hD
    have hK : va_K (dC, dI) vwCl [(cR, .object RX5)] s := hK
    try dsimp only at hw_23
    have k_24 := hw_23
    refine W_toi (y := 0) k_24 ?_
    refine lv_istore_n (lv' := [(3, .int 0), (2, .ref q3), (0, .ref h0), (1, .int p0)]) hx hb dX8_clear_16 rfl hl (by decide) rfl (fun ls hl => ?_)
    refine lv_aload_n hx hb dX8_clear_17 rfl (lv_at hl 1 rfl) ?_
    refine lv_iconst (v := 0) hx hb dX8_clear_18 (by decide) ?_
    have hFc := va_free (wc := [(q3, .inr (7, [.ref b3, .int 0]))]) hD hS hA [5] rfl
    refine va_calli (va_runV (As := [.int 0]) (rest := []) ⟨hx, hb, hml, hown, hts⟩ (c_X5_cut0 l dC dI q3 b3 H.size) (cwV 1 hts gp_X8_clear_X5_cut0_83 rfl rfl rfl (by decide +kernel) ⟨Nat.le_of_ble_eq_true rfl, Nat.le_of_ble_eq_true rfl⟩) ⟨Pr.blind _, va_recv hK hP (ci := 7) (q0 := 5) rfl rfl, fun U hU hW => ⟨rfl, Pr.at (hP.sub (ws' := [(q3, .inr (7, [.ref b3, .int 0]))]) [5] rfl) (hK.sub (tys' := []) [] rfl) (hD.sub (ws' := [(q3, .inr (7, [.ref b3, .int 0]))]) [5] (by decide) rfl) hN hZ hS hFc hU hW⟩⟩ rfl rfl hl.1 rfl (lv_room (Nat.le_of_ble_eq_true rfl)) dX8_clear_19 ⟨Nat.le_of_ble_eq_true rfl, Nat.le_of_ble_eq_true rfl⟩) hS (fun q _ h => hFc q h) hFc (fun r_25 u t H1 locs ht hvm hw_26 hB hz1 hk1 hS => ?_)
    obtain ⟨hP, hD, hK⟩ := Bq.join (wr := [(q0, .inr (7, [.ref b0, .int 0])), (q1, .inr (7, [.ref b1, .int 0])), (q2, .inr (7, [.ref b2, .int 0])), (h0, .inr (10, [.ref t0, .ref r0, .ref m0, .ref x0, v4, v5, v6, v7, v8, .int 0, .int (-1), .int 0])), (r0, .inl (cR, 4, .inr (.inr (.inr (.inr fR)))))]) hB ht hvm hP hD [5] [0, 1, 2, 3, 4] rfl rfl (by decide) (by decide) hk1 hFc hK
    generalize H1 = H at hP hS ⊢
    have hP : va_P (dC, dI) vwCl [(q0, .inr (7, [.ref b0, .int 0])), (q1, .inr (7, [.ref b1, .int 0])), (q2, .inr (7, [.ref b2, .int 0])), (h0, .inr (10, [.ref t0, .ref r0, .ref m0, .ref x0, v4, v5, v6, v7, v8, .int 0, .int (-1), .int 0])), (r0, .inl (cR, 4, .inr (.inr (.inr (.inr fR))))), (q3, .inr (7, [.ref b3, .int 0]))] H := hP
    have hD : va_D A [(q0, .inr (7, [.ref b0, .int 0])), (q1, .inr (7, [.ref b1, .int 0])), (q2, .inr (7, [.ref b2, .int 0])), (h0, .inr (10, [.ref t0, .ref r0, .ref m0, .ref x0, v4, v5, v6, v7, v8, .int 0, .int (-1), .int 0])), (r0, .inl (cR, 4, .inr (.inr (.inr (.inr fR))))), (q3, .inr (7, [.ref b3, .int 0]))] := hD
    have hK : va_K (dC, dI) vwCl [(cR, .object RX5)] s := hK
    try dsimp only at hw_26
    have k_27 := hw_26
    refine W_toi (y := 1) k_27 ?_
    refine lv_pop hx hb dX8_clear_22 rfl ?_
    refine lv_iload_n hx hb dX8_clear_23 rfl (lv_at hl 0 rfl) ?_
    have hP9 := hP.sub (ws' := []) [] rfl
    have hD9 := hD.sub (ws' := []) [] (by decide) rfl
    have hK9 := hK.sub (tys' := []) [] rfl
    exact W.iret (v := 0) hx hb hr (fun t ht hW => ⟨⟨0, (), rfl, (if_neg ho).symm, by rw [ht]; exact hP9, va_K.moved hW.alike hK9, hD9⟩, hS.F ht⟩) hS.2.2 dX8_clear_24
def wp_X8_load : List Cond := .code yX8_load cX8_load 3 (some .int) :: ([.methodLink RX8 128 yX8_recordOf, .instanceMethod yX8_recordOf, .selects RX8 yX8_recordOf yX8_recordOf, .initialized RX8, .fieldLink RX8 14 "RecordBench" "tape" "LRecordBench$Row;", .methodLink RX8 76 yX5_size, .instanceMethod yX5_size, .selects RX5 yX5_size yX5_size, .initialized RX5, .methodLink RX8 132 yX5_become, .instanceMethod yX5_become, .selects RX5 yX5_become yX5_become, .methodLink RX8 83 yX5_cut, .instanceMethod yX5_cut, .selects RX5 yX5_cut yX5_cut, .code yX8_recordOf cX8_recordOf 2 (some (.object "RecordBench$Row")), .fieldLink RX8 18 "RecordBench" "records" "[LRecordBench$Row;", .code yX5_size cX5_size 1 (some .int), .fieldLink RX5 21 "RecordBench$Row" "size" "I", .code yX5_become cX5_become 6 none, .code yX5_cut cX5_cut 2 (some .boolean)] ++ wsX80 ++ wsX50)
set_option maxRecDepth 20000 in
theorem gp_X8_load_X8_recordOf_128 : GoodIn wp_X8_load (wsV RX8 128 RX8 yX8_recordOf wp_X8_recordOf) := goodIn_p _ [16] rfl (by decide +kernel)
set_option maxRecDepth 20000 in
theorem gp_X8_load_X5_size_76 : GoodIn wp_X8_load (wsV RX8 76 RX5 yX5_size wp_X5_size) := goodIn_p _ [18] rfl (by decide +kernel)
set_option maxRecDepth 20000 in
theorem gp_X8_load_X5_become0_132 : GoodIn wp_X8_load (wsV RX8 132 RX5 yX5_become wp_X5_become0) := goodIn_p _ [20] rfl (by decide +kernel)
set_option maxRecDepth 20000 in
theorem gp_X8_load_X5_cut0_83 : GoodIn wp_X8_load (wsV RX8 83 RX5 yX5_cut wp_X5_cut0) := goodIn_p _ [21] rfl (by decide +kernel)
set_option maxHeartbeats 4000000 in
set_option maxRecDepth 100000 in
theorem c_X8_load (l : Launch) (dC : Nat → ClassId) (dI : Nat → Nat → Nat) (h0 : Nat) (t0 : Nat) (r0 : Nat) (m0 : Nat) (x0 : Nat) (v4 : Value) (v5 : Value) (v6 : Value) (v7 : Value) (v8 : Value) (cR : ClassId) (fR : Nat → Option Nat) (q0 : Nat) (q1 : Nat) (q2 : Nat) (q3 : Nat) (b0 : Nat) (b1 : Nat) (b2 : Nat) (b3 : Nat) (tb : Nat) (hq0 : fR 0 = some q0) (hq1 : fR 1 = some q1) (hq2 : fR 2 = some q2) (hq3 : fR 3 = some q3) (p0 : Int32) (sz : Nat) : Met l yX8_load wp_X8_load ({ frames := 1, cells := 0, slots := 0, locals := 29 }) (va_Pc [.ref h0, .int p0] (Pr (dC, dI) [(cR, .object RX5)] [(h0, .inr (10, [.ref t0, .ref r0, .ref m0, .ref x0, v4, v5, v6, v7, v8, .int 0, .int ((-1)), .int 0])), (r0, .inl (cR, 4, .inr (.inr (.inr (.inr fR))))), (q0, .inr (7, [.ref b0, .int 0])), (q1, .inr (7, [.ref b1, .int 0])), (q2, .inr (7, [.ref b2, .int 0])), (q3, .inr (7, [.ref b3, .int 0])), (t0, .inr (7, [.ref tb, .int 0]))] sz)) (va_Qi (fun r : Int32 => (fun _ : Unit => r = if p0 < 0 ∨ 4 ≤ p0 then -1 else 0)) (Bq (dC, dI) (fun _ : Unit => []) (fun _ : Unit => []) (va_A [(h0, .inr (10, [.ref t0, .ref r0, .ref m0, .ref x0, v4, v5, v6, v7, v8, .int 0, .int ((-1)), .int 0])), (r0, .inl (cR, 4, .inr (.inr (.inr (.inr fR))))), (q0, .inr (7, [.ref b0, .int 0])), (q1, .inr (7, [.ref b1, .int 0])), (q2, .inr (7, [.ref b2, .int 0])), (q3, .inr (7, [.ref b3, .int 0])), (t0, .inr (7, [.ref tb, .int 0]))] sz)) (va_A [(h0, .inr (10, [.ref t0, .ref r0, .ref m0, .ref x0, v4, v5, v6, v7, v8, .int 0, .int ((-1)), .int 0])), (r0, .inl (cR, 4, .inr (.inr (.inr (.inr fR))))), (q0, .inr (7, [.ref b0, .int 0])), (q1, .inr (7, [.ref b1, .int 0])), (q2, .inr (7, [.ref b2, .int 0])), (q3, .inr (7, [.ref b3, .int 0])), (t0, .inr (7, [.ref tb, .int 0]))] sz)) 0 0 (va_A [(h0, .inr (10, [.ref t0, .ref r0, .ref m0, .ref x0, v4, v5, v6, v7, v8, .int 0, .int ((-1)), .int 0])), (r0, .inl (cR, 4, .inr (.inr (.inr (.inr fR))))), (q0, .inr (7, [.ref b0, .int 0])), (q1, .inr (7, [.ref b1, .int 0])), (q2, .inr (7, [.ref b2, .int 0])), (q3, .inr (7, [.ref b3, .int 0])), (t0, .inr (7, [.ref tb, .int 0]))] sz) := by
  refine Met.ofW (cc := cX8_load) (maxL := 3) (ret := (some .int)) (by decide) rfl ?_
  intro p e s m args below meth c s₁ B hml hv
  obtain ⟨rfl, hsz, hP, hK, hD0, hN, hZ⟩ := hv
  have hx := B.exec
  have hb := B.bytes
  have hr := B.returns
  have hts := atoms_spec (ws := wp_X8_load) B.pre
  have hown : s.vm.findClass RX8 = some m.cls := findClass_of_methodNamed B.named
  have hlocks := B.notSynchronized
  have iRX8 : ∀ w ∈ u_ws RX8 TX8 12, w ∈ wp_X8_load := by decide +kernel
  subst hsz
  have hD := hD0.self (sz := s.heap.size)
  generalize hAe : va_A [(h0, .inr (10, [.ref t0, .ref r0, .ref m0, .ref x0, v4, v5, v6, v7, v8, .int 0, .int ((-1)), .int 0])), (r0, .inl (cR, 4, .inr (.inr (.inr (.inr fR))))), (q0, .inr (7, [.ref b0, .int 0])), (q1, .inr (7, [.ref b1, .int 0])), (q2, .inr (7, [.ref b2, .int 0])), (q3, .inr (7, [.ref b3, .int 0])), (t0, .inr (7, [.ref tb, .int 0]))] s.heap.size = A at hD hZ ⊢
  have hA : ∀ q : Nat, s.heap.size ≤ q → A q := fun q h => by rw [← hAe]; exact Or.inr h
  have hS : va_S A s.heap s.heap [] := va_S.rf
  have hP : va_P (dC, dI) vwCl [(h0, .inr (10, [.ref t0, .ref r0, .ref m0, .ref x0, v4, v5, v6, v7, v8, .int 0, .int ((-1)), .int 0])), (r0, .inl (cR, 4, .inr (.inr (.inr (.inr fR))))), (q0, .inr (7, [.ref b0, .int 0])), (q1, .inr (7, [.ref b1, .int 0])), (q2, .inr (7, [.ref b2, .int 0])), (q3, .inr (7, [.ref b3, .int 0])), (t0, .inr (7, [.ref tb, .int 0]))] s.heap := hP
  have hl := lv_entry ([.ref h0, .int p0]) (n := 3) (Nat.le_of_ble_eq_true rfl)
  rw [lg_entry_eq]
  generalize (lg_sl ([.ref h0, .int p0]) ++ List.replicate (3 - (lg_sl ([.ref h0, .int p0])).length) Slot.unset).toArray = ls at hl ⊢
  have hl : lv_has ls 3 [(0, .ref h0), (1, .int p0)] := hl
  refine lv_aload_n hx hb dX8_load_0 rfl (lv_at hl 0 rfl) ?_
  refine lv_iload_n hx hb dX8_load_1 rfl (lv_at hl 1 rfl) ?_
  have hFc := va_free (wc := [(h0, .inr (10, [.ref t0, .ref r0, .ref m0, .ref x0, v4, v5, v6, v7, v8, .int 0, .int ((-1)), .int 0])), (r0, .inl (cR, 4, .inr (.inr (.inr (.inr fR)))))]) hD hS hA [0, 1] rfl
  refine va_callq (va_runV (As := [.int p0]) (rest := []) ⟨hx, hb, hml, hown, hts⟩ (c_X8_recordOf l dC dI h0 t0 r0 m0 x0 (v4) (v5) (v6) (v7) (v8) cR fR q0 q1 q2 q3 (hq0) (hq1) (hq2) (hq3) p0 s.heap.size) (cwV 1 hts gp_X8_load_X8_recordOf_128 rfl rfl rfl (by decide +kernel) ⟨Nat.le_of_ble_eq_true rfl, Nat.le_of_ble_eq_true rfl⟩) ⟨Pr.blind _, va_recv hK hP (ci := 10) (q0 := 0) rfl rfl, fun U hU hW => ⟨rfl, Pr.at (hP.sub (ws' := [(h0, .inr (10, [.ref t0, .ref r0, .ref m0, .ref x0, v4, v5, v6, v7, v8, .int 0, .int ((-1)), .int 0])), (r0, .inl (cR, 4, .inr (.inr (.inr (.inr fR)))))]) [0, 1] rfl) (hK.sub (tys' := [(cR, .object RX5)]) [0] rfl) (hD.sub (ws' := [(h0, .inr (10, [.ref t0, .ref r0, .ref m0, .ref x0, v4, v5, v6, v7, v8, .int 0, .int ((-1)), .int 0])), (r0, .inl (cR, 4, .inr (.inr (.inr (.inr fR)))))]) [0, 1] (by decide) rfl) hN hZ hS hFc hU hW⟩⟩ rfl rfl hl.1 rfl (lv_room (Nat.le_of_ble_eq_true rfl)) dX8_load_2 ⟨Nat.le_of_ble_eq_true rfl, Nat.le_of_ble_eq_true rfl⟩) hS (fun q _ h => hFc q h) hFc (fun r_1 u t H1 locs ht hvm hw_2 hB hz1 hk1 hS => ?_)
  obtain ⟨hP, hD, hK⟩ := Bq.join (wr := [(q0, .inr (7, [.ref b0, .int 0])), (q1, .inr (7, [.ref b1, .int 0])), (q2, .inr (7, [.ref b2, .int 0])), (q3, .inr (7, [.ref b3, .int 0])), (t0, .inr (7, [.ref tb, .int 0]))]) hB ht hvm hP hD [0, 1] [2, 3, 4, 5, 6] rfl rfl (by decide) (by decide) hk1 hFc hK
  generalize H1 = H at hP hS ⊢
  have hP : va_P (dC, dI) vwCl [(q0, .inr (7, [.ref b0, .int 0])), (q1, .inr (7, [.ref b1, .int 0])), (q2, .inr (7, [.ref b2, .int 0])), (q3, .inr (7, [.ref b3, .int 0])), (t0, .inr (7, [.ref tb, .int 0])), (h0, .inr (10, [.ref t0, .ref r0, .ref m0, .ref x0, v4, v5, v6, v7, v8, .int 0, .int (-1), .int 0])), (r0, .inl (cR, 4, .inr (.inr (.inr (.inr fR)))))] H := hP
  have hD : va_D A [(q0, .inr (7, [.ref b0, .int 0])), (q1, .inr (7, [.ref b1, .int 0])), (q2, .inr (7, [.ref b2, .int 0])), (q3, .inr (7, [.ref b3, .int 0])), (t0, .inr (7, [.ref tb, .int 0])), (h0, .inr (10, [.ref t0, .ref r0, .ref m0, .ref x0, v4, v5, v6, v7, v8, .int 0, .int (-1), .int 0])), (r0, .inl (cR, 4, .inr (.inr (.inr (.inr fR)))))] := hD
  have hK : va_K (dC, dI) vwCl [(cR, .object RX5)] s := hK
  try dsimp only at hw_2
  have k_3 := hw_2
  rcases k_3 with ⟨ho, rfl⟩ | ⟨ho, rfl | rfl | rfl | rfl⟩
  · refine W.eq (g2 := F0 m 5 ls [.null]) rfl ?_
    refine lv_astore_nN (lv' := [(2, .null), (0, .ref h0), (1, .int p0)]) hx hb dX8_load_5 rfl hl (by decide) rfl (fun ls hl => ?_)
    refine lv_aload_nN hx hb dX8_load_6 rfl (lv_at hl 0 rfl) ?_
    refine lv_ifnullN (tgt := 22) hx hb dX8_load_7 (by decide) ?_
    refine lv_iconst (v := (-1)) hx hb dX8_load_22 (by decide) ?_
    have hP9 := hP.sub (ws' := []) [] rfl
    have hD9 := hD.sub (ws' := []) [] (by decide) rfl
    have hK9 := hK.sub (tys' := []) [] rfl
    exact W.iret (v := (-1)) hx hb hr (fun t ht hW => ⟨⟨(-1), (), rfl, (if_pos ho).symm, by rw [ht]; exact hP9, va_K.moved hW.alike hK9, hD9⟩, hS.F ht⟩) hS.2.2 dX8_load_23
  · refine W.eq (g2 := F0 m 5 ls [.ref q0]) rfl ?_
    refine lv_astore_n (lv' := [(2, .ref q0), (0, .ref h0), (1, .int p0)]) hx hb dX8_load_5 rfl hl (by decide) rfl (fun ls hl => ?_)
    refine lv_aload_n hx hb dX8_load_6 rfl (lv_at hl 0 rfl) ?_
    refine lv_ifnull hx hb dX8_load_7 ?_
    refine lv_aload_n hx hb dX8_load_10 rfl (lv_at hl 1 rfl) ?_
    refine va_get (D := (dC, dI)) (ci := 10) (v := .ref t0) (C := RX8) (T := TX8) (N := 12) hx hb hts iRX8 hown hK hP 5 rfl rfl 0 (by decide) (hts (.fieldLink RX8 14 "RecordBench" "tape" "LRecordBench$Row;") (by decide +kernel)) (fun _ h9 => h9) rfl dX8_load_11 ?_
    have hFc := va_free (wc := [(t0, .inr (7, [.ref tb, .int 0]))]) hD hS hA [4] rfl
    refine va_calli (va_runV (As := []) (rest := []) ⟨hx, hb, hml, hown, hts⟩ (c_X5_size l dC dI t0 tb 0 H.size) (cwV 0 hts gp_X8_load_X5_size_76 rfl rfl rfl (by decide +kernel) ⟨Nat.le_of_ble_eq_true rfl, Nat.le_of_ble_eq_true rfl⟩) ⟨Pr.blind _, va_recv hK hP (ci := 7) (q0 := 4) rfl rfl, fun U hU hW => ⟨rfl, Pr.at (hP.sub (ws' := [(t0, .inr (7, [.ref tb, .int 0]))]) [4] rfl) (hK.sub (tys' := []) [] rfl) (hD.sub (ws' := [(t0, .inr (7, [.ref tb, .int 0]))]) [4] (by decide) rfl) hN hZ hS hFc hU hW⟩⟩ rfl rfl hl.1 rfl (lv_room (Nat.le_of_ble_eq_true rfl)) dX8_load_14 ⟨Nat.le_of_ble_eq_true rfl, Nat.le_of_ble_eq_true rfl⟩) hS (fun q _ h => hFc q h) hFc (fun r_4 u t H1 locs ht hvm hw_5 hB hz1 hk1 hS => ?_)
    obtain ⟨hP, hD, hK⟩ := Bq.join (wr := [(q0, .inr (7, [.ref b0, .int 0])), (q1, .inr (7, [.ref b1, .int 0])), (q2, .inr (7, [.ref b2, .int 0])), (q3, .inr (7, [.ref b3, .int 0])), (h0, .inr (10, [.ref t0, .ref r0, .ref m0, .ref x0, v4, v5, v6, v7, v8, .int 0, .int (-1), .int 0])), (r0, .inl (cR, 4, .inr (.inr (.inr (.inr fR)))))]) hB ht hvm hP hD [4] [0, 1, 2, 3, 5, 6] rfl rfl (by decide) (by decide) hk1 hFc hK
    generalize H1 = H at hP hS ⊢
    have hP : va_P (dC, dI) vwCl [(q0, .inr (7, [.ref b0, .int 0])), (q1, .inr (7, [.ref b1, .int 0])), (q2, .inr (7, [.ref b2, .int 0])), (q3, .inr (7, [.ref b3, .int 0])), (h0, .inr (10, [.ref t0, .ref r0, .ref m0, .ref x0, v4, v5, v6, v7, v8, .int 0, .int (-1), .int 0])), (r0, .inl (cR, 4, .inr (.inr (.inr (.inr fR))))), (t0, .inr (7, [.ref tb, .int 0]))] H := hP
    have hD : va_D A [(q0, .inr (7, [.ref b0, .int 0])), (q1, .inr (7, [.ref b1, .int 0])), (q2, .inr (7, [.ref b2, .int 0])), (q3, .inr (7, [.ref b3, .int 0])), (h0, .inr (10, [.ref t0, .ref r0, .ref m0, .ref x0, v4, v5, v6, v7, v8, .int 0, .int (-1), .int 0])), (r0, .inl (cR, 4, .inr (.inr (.inr (.inr fR))))), (t0, .inr (7, [.ref tb, .int 0]))] := hD
    have hK : va_K (dC, dI) vwCl [(cR, .object RX5)] s := hK
    try dsimp only at hw_5
    have k_6 := hw_5
    refine W_toi (y := 0) k_6 ?_
    refine lv_bipush (v := 120) hx hb dX8_load_17 (by decide) ?_
    refine lv_icmp_le (tgt := 24) hx hb dX8_load_19 (by decide) (fun c_7 => ?_) (fun c_7 => absurd (by decide) c_7)
    refine lv_aload_n hx hb dX8_load_24 rfl (lv_at hl 0 rfl) ?_
    refine lv_aload_n hx hb dX8_load_25 rfl (lv_at hl 1 rfl) ?_
    refine va_get (D := (dC, dI)) (ci := 10) (v := .ref t0) (C := RX8) (T := TX8) (N := 12) hx hb hts iRX8 hown hK hP 4 rfl rfl 0 (by decide) (hts (.fieldLink RX8 14 "RecordBench" "tape" "LRecordBench$Row;") (by decide +kernel)) (fun _ h9 => h9) rfl dX8_load_26 ?_
    refine lv_iconst (v := 0) hx hb dX8_load_29 (by decide) ?_
    refine lv_aload_n hx hb dX8_load_30 rfl (lv_at hl 1 rfl) ?_
    refine va_get (D := (dC, dI)) (ci := 10) (v := .ref t0) (C := RX8) (T := TX8) (N := 12) hx hb hts iRX8 hown hK hP 4 rfl rfl 0 (by decide) (hts (.fieldLink RX8 14 "RecordBench" "tape" "LRecordBench$Row;") (by decide +kernel)) (fun _ h9 => h9) rfl dX8_load_31 ?_
    have hFc := va_free (wc := [(t0, .inr (7, [.ref tb, .int 0]))]) hD hS hA [6] rfl
    refine va_calli (va_runV (As := []) (rest := [.int 0, .ref t0, .ref q0]) ⟨hx, hb, hml, hown, hts⟩ (c_X5_size l dC dI t0 tb 0 H.size) (cwV 0 hts gp_X8_load_X5_size_76 rfl rfl rfl (by decide +kernel) ⟨Nat.le_of_ble_eq_true rfl, Nat.le_of_ble_eq_true rfl⟩) ⟨Pr.blind _, va_recv hK hP (ci := 7) (q0 := 6) rfl rfl, fun U hU hW => ⟨rfl, Pr.at (hP.sub (ws' := [(t0, .inr (7, [.ref tb, .int 0]))]) [6] rfl) (hK.sub (tys' := []) [] rfl) (hD.sub (ws' := [(t0, .inr (7, [.ref tb, .int 0]))]) [6] (by decide) rfl) hN hZ hS hFc hU hW⟩⟩ rfl rfl hl.1 rfl (lv_room (Nat.le_of_ble_eq_true rfl)) dX8_load_34 ⟨Nat.le_of_ble_eq_true rfl, Nat.le_of_ble_eq_true rfl⟩) hS (fun q _ h => hFc q h) hFc (fun r_8 u t H1 locs ht hvm hw_9 hB hz1 hk1 hS => ?_)
    obtain ⟨hP, hD, hK⟩ := Bq.join (wr := [(q0, .inr (7, [.ref b0, .int 0])), (q1, .inr (7, [.ref b1, .int 0])), (q2, .inr (7, [.ref b2, .int 0])), (q3, .inr (7, [.ref b3, .int 0])), (h0, .inr (10, [.ref t0, .ref r0, .ref m0, .ref x0, v4, v5, v6, v7, v8, .int 0, .int (-1), .int 0])), (r0, .inl (cR, 4, .inr (.inr (.inr (.inr fR)))))]) hB ht hvm hP hD [6] [0, 1, 2, 3, 4, 5] rfl rfl (by decide) (by decide) hk1 hFc hK
    generalize H1 = H at hP hS ⊢
    have hP : va_P (dC, dI) vwCl [(q0, .inr (7, [.ref b0, .int 0])), (q1, .inr (7, [.ref b1, .int 0])), (q2, .inr (7, [.ref b2, .int 0])), (q3, .inr (7, [.ref b3, .int 0])), (h0, .inr (10, [.ref t0, .ref r0, .ref m0, .ref x0, v4, v5, v6, v7, v8, .int 0, .int (-1), .int 0])), (r0, .inl (cR, 4, .inr (.inr (.inr (.inr fR))))), (t0, .inr (7, [.ref tb, .int 0]))] H := hP
    have hD : va_D A [(q0, .inr (7, [.ref b0, .int 0])), (q1, .inr (7, [.ref b1, .int 0])), (q2, .inr (7, [.ref b2, .int 0])), (q3, .inr (7, [.ref b3, .int 0])), (h0, .inr (10, [.ref t0, .ref r0, .ref m0, .ref x0, v4, v5, v6, v7, v8, .int 0, .int (-1), .int 0])), (r0, .inl (cR, 4, .inr (.inr (.inr (.inr fR))))), (t0, .inr (7, [.ref tb, .int 0]))] := hD
    have hK : va_K (dC, dI) vwCl [(cR, .object RX5)] s := hK
    try dsimp only at hw_9
    have k_10 := hw_9
    refine W_toi (y := 0) k_10 ?_
    have hFc := va_free (wc := [(q0, .inr (7, [.ref b0, .int 0])), (t0, .inr (7, [.ref tb, .int 0]))]) hD hS hA [0, 6] rfl
    refine va_callv (va_runV (As := [.ref t0, .int 0, .int 0]) (rest := []) ⟨hx, hb, hml, hown, hts⟩ (c_X5_become0 l dC dI q0 b0 0 t0 tb 0 H.size) (cwV 3 hts gp_X8_load_X5_become0_132 rfl rfl rfl (by decide +kernel) ⟨Nat.le_of_ble_eq_true rfl, Nat.le_of_ble_eq_true rfl⟩) ⟨Pr.blind _, va_recv hK hP (ci := 7) (q0 := 0) rfl rfl, fun U hU hW => ⟨rfl, Pr.at (hP.sub (ws' := [(q0, .inr (7, [.ref b0, .int 0])), (t0, .inr (7, [.ref tb, .int 0]))]) [0, 6] rfl) (hK.sub (tys' := []) [] rfl) (hD.sub (ws' := [(q0, .inr (7, [.ref b0, .int 0])), (t0, .inr (7, [.ref tb, .int 0]))]) [0, 6] (by decide) rfl) hN hZ hS hFc hU hW⟩⟩ rfl rfl hl.1 rfl (lv_room (Nat.le_of_ble_eq_true rfl)) dX8_load_37 ⟨Nat.le_of_ble_eq_true rfl, Nat.le_of_ble_eq_true rfl⟩) hS (fun q _ h => hFc q h) hFc (fun u t H1 locs ht hvm hw_12 hB hz1 hk1 hS => ?_)
    obtain ⟨hP, hD, hK⟩ := Bq.join (wr := [(q1, .inr (7, [.ref b1, .int 0])), (q2, .inr (7, [.ref b2, .int 0])), (q3, .inr (7, [.ref b3, .int 0])), (h0, .inr (10, [.ref t0, .ref r0, .ref m0, .ref x0, v4, v5, v6, v7, v8, .int 0, .int (-1), .int 0])), (r0, .inl (cR, 4, .inr (.inr (.inr (.inr fR)))))]) hB ht hvm hP hD [0, 6] [1, 2, 3, 4, 5] rfl rfl (by decide) (by decide) hk1 hFc hK
    generalize H1 = H at hP hS ⊢
    have hP : va_P (dC, dI) vwCl [(q1, .inr (7, [.ref b1, .int 0])), (q2, .inr (7, [.ref b2, .int 0])), (q3, .inr (7, [.ref b3, .int 0])), (h0, .inr (10, [.ref t0, .ref r0, .ref m0, .ref x0, v4, v5, v6, v7, v8, .int 0, .int (-1), .int 0])), (r0, .inl (cR, 4, .inr (.inr (.inr (.inr fR))))), (q0, .inr (7, [.ref b0, .int 0])), (t0, .inr (7, [.ref tb, .int 0]))] H := hP
    have hD : va_D A [(q1, .inr (7, [.ref b1, .int 0])), (q2, .inr (7, [.ref b2, .int 0])), (q3, .inr (7, [.ref b3, .int 0])), (h0, .inr (10, [.ref t0, .ref r0, .ref m0, .ref x0, v4, v5, v6, v7, v8, .int 0, .int (-1), .int 0])), (r0, .inl (cR, 4, .inr (.inr (.inr (.inr fR))))), (q0, .inr (7, [.ref b0, .int 0])), (t0, .inr (7, [.ref tb, .int 0]))] := hD
    have hK : va_K (dC, dI) vwCl [(cR, .object RX5)] s := hK
    refine lv_aload_n hx hb dX8_load_40 rfl (lv_at hl 1 rfl) ?_
    refine va_get (D := (dC, dI)) (ci := 10) (v := .ref t0) (C := RX8) (T := TX8) (N := 12) hx hb hts iRX8 hown hK hP 3 rfl rfl 0 (by decide) (hts (.fieldLink RX8 14 "RecordBench" "tape" "LRecordBench$Row;") (by decide +kernel)) (fun _ h9 => h9) rfl dX8_load_41 ?_
    refine lv_iconst (v := 0) hx hb dX8_load_44 (by decide) ?_
    have hFc := va_free (wc := [(t0, .inr (7, [.ref tb, .int 0]))]) hD hS hA [6] rfl
    refine va_calli (va_runV (As := [.int 0]) (rest := []) ⟨hx, hb, hml, hown, hts⟩ (c_X5_cut0 l dC dI t0 tb H.size) (cwV 1 hts gp_X8_load_X5_cut0_83 rfl rfl rfl (by decide +kernel) ⟨Nat.le_of_ble_eq_true rfl, Nat.le_of_ble_eq_true rfl⟩) ⟨Pr.blind _, va_recv hK hP (ci := 7) (q0 := 6) rfl rfl, fun U hU hW => ⟨rfl, Pr.at (hP.sub (ws' := [(t0, .inr (7, [.ref tb, .int 0]))]) [6] rfl) (hK.sub (tys' := []) [] rfl) (hD.sub (ws' := [(t0, .inr (7, [.ref tb, .int 0]))]) [6] (by decide) rfl) hN hZ hS hFc hU hW⟩⟩ rfl rfl hl.1 rfl (lv_room (Nat.le_of_ble_eq_true rfl)) dX8_load_45 ⟨Nat.le_of_ble_eq_true rfl, Nat.le_of_ble_eq_true rfl⟩) hS (fun q _ h => hFc q h) hFc (fun r_13 u t H1 locs ht hvm hw_14 hB hz1 hk1 hS => ?_)
    obtain ⟨hP, hD, hK⟩ := Bq.join (wr := [(q1, .inr (7, [.ref b1, .int 0])), (q2, .inr (7, [.ref b2, .int 0])), (q3, .inr (7, [.ref b3, .int 0])), (h0, .inr (10, [.ref t0, .ref r0, .ref m0, .ref x0, v4, v5, v6, v7, v8, .int 0, .int (-1), .int 0])), (r0, .inl (cR, 4, .inr (.inr (.inr (.inr fR))))), (q0, .inr (7, [.ref b0, .int 0]))]) hB ht hvm hP hD [6] [0, 1, 2, 3, 4, 5] rfl rfl (by decide) (by decide) hk1 hFc hK
    generalize H1 = H at hP hS ⊢
    have hP : va_P (dC, dI) vwCl [(q1, .inr (7, [.ref b1, .int 0])), (q2, .inr (7, [.ref b2, .int 0])), (q3, .inr (7, [.ref b3, .int 0])), (h0, .inr (10, [.ref t0, .ref r0, .ref m0, .ref x0, v4, v5, v6, v7, v8, .int 0, .int (-1), .int 0])), (r0, .inl (cR, 4, .inr (.inr (.inr (.inr fR))))), (q0, .inr (7, [.ref b0, .int 0])), (t0, .inr (7, [.ref tb, .int 0]))] H := hP
    have hD : va_D A [(q1, .inr (7, [.ref b1, .int 0])), (q2, .inr (7, [.ref b2, .int 0])), (q3, .inr (7, [.ref b3, .int 0])), (h0, .inr (10, [.ref t0, .ref r0, .ref m0, .ref x0, v4, v5, v6, v7, v8, .int 0, .int (-1), .int 0])), (r0, .inl (cR, 4, .inr (.inr (.inr (.inr fR))))), (q0, .inr (7, [.ref b0, .int 0])), (t0, .inr (7, [.ref tb, .int 0]))] := hD
    have hK : va_K (dC, dI) vwCl [(cR, .object RX5)] s := hK
    try dsimp only at hw_14
    have k_15 := hw_14
    refine W_toi (y := 1) k_15 ?_
    refine lv_pop hx hb dX8_load_48 rfl ?_
    refine lv_aload_n hx hb dX8_load_49 rfl (lv_at hl 0 rfl) ?_
    have hFc := va_free (wc := [(q0, .inr (7, [.ref b0, .int 0]))]) hD hS hA [5] rfl
    refine va_calli (va_runV (As := []) (rest := []) ⟨hx, hb, hml, hown, hts⟩ (c_X5_size l dC dI q0 b0 0 H.size) (cwV 0 hts gp_X8_load_X5_size_76 rfl rfl rfl (by decide +kernel) ⟨Nat.le_of_ble_eq_true rfl, Nat.le_of_ble_eq_true rfl⟩) ⟨Pr.blind _, va_recv hK hP (ci := 7) (q0 := 5) rfl rfl, fun U hU hW => ⟨rfl, Pr.at (hP.sub (ws' := [(q0, .inr (7, [.ref b0, .int 0]))]) [5] rfl) (hK.sub (tys' := []) [] rfl) (hD.sub (ws' := [(q0, .inr (7, [.ref b0, .int 0]))]) [5] (by decide) rfl) hN hZ hS hFc hU hW⟩⟩ rfl rfl hl.1 rfl (lv_room (Nat.le_of_ble_eq_true rfl)) dX8_load_50 ⟨Nat.le_of_ble_eq_true rfl, Nat.le_of_ble_eq_true rfl⟩) hS (fun q _ h => hFc q h) hFc (fun r_16 u t H1 locs ht hvm hw_17 hB hz1 hk1 hS => ?_)
    obtain ⟨hP, hD, hK⟩ := Bq.join (wr := [(q1, .inr (7, [.ref b1, .int 0])), (q2, .inr (7, [.ref b2, .int 0])), (q3, .inr (7, [.ref b3, .int 0])), (h0, .inr (10, [.ref t0, .ref r0, .ref m0, .ref x0, v4, v5, v6, v7, v8, .int 0, .int (-1), .int 0])), (r0, .inl (cR, 4, .inr (.inr (.inr (.inr fR))))), (t0, .inr (7, [.ref tb, .int 0]))]) hB ht hvm hP hD [5] [0, 1, 2, 3, 4, 6] rfl rfl (by decide) (by decide) hk1 hFc hK
    generalize H1 = H at hP hS ⊢
    have hP : va_P (dC, dI) vwCl [(q1, .inr (7, [.ref b1, .int 0])), (q2, .inr (7, [.ref b2, .int 0])), (q3, .inr (7, [.ref b3, .int 0])), (h0, .inr (10, [.ref t0, .ref r0, .ref m0, .ref x0, v4, v5, v6, v7, v8, .int 0, .int (-1), .int 0])), (r0, .inl (cR, 4, .inr (.inr (.inr (.inr fR))))), (t0, .inr (7, [.ref tb, .int 0])), (q0, .inr (7, [.ref b0, .int 0]))] H := hP
    have hD : va_D A [(q1, .inr (7, [.ref b1, .int 0])), (q2, .inr (7, [.ref b2, .int 0])), (q3, .inr (7, [.ref b3, .int 0])), (h0, .inr (10, [.ref t0, .ref r0, .ref m0, .ref x0, v4, v5, v6, v7, v8, .int 0, .int (-1), .int 0])), (r0, .inl (cR, 4, .inr (.inr (.inr (.inr fR))))), (t0, .inr (7, [.ref tb, .int 0])), (q0, .inr (7, [.ref b0, .int 0]))] := hD
    have hK : va_K (dC, dI) vwCl [(cR, .object RX5)] s := hK
    try dsimp only at hw_17
    have k_18 := hw_17
    refine W_toi (y := 0) k_18 ?_
    have hP9 := hP.sub (ws' := []) [] rfl
    have hD9 := hD.sub (ws' := []) [] (by decide) rfl
    have hK9 := hK.sub (tys' := []) [] rfl
    exact W.iret (v := 0) hx hb hr (fun t ht hW => ⟨⟨0, (), rfl, (if_neg ho).symm, by rw [ht]; exact hP9, va_K.moved hW.alike hK9, hD9⟩, hS.F ht⟩) hS.2.2 dX8_load_53
  · refine W.eq (g2 := F0 m 5 ls [.ref q1]) rfl ?_
    refine lv_astore_n (lv' := [(2, .ref q1), (0, .ref h0), (1, .int p0)]) hx hb dX8_load_5 rfl hl (by decide) rfl (fun ls hl => ?_)
    refine lv_aload_n hx hb dX8_load_6 rfl (lv_at hl 0 rfl) ?_
    refine lv_ifnull hx hb dX8_load_7 ?_
    refine lv_aload_n hx hb dX8_load_10 rfl (lv_at hl 1 rfl) ?_
    refine va_get (D := (dC, dI)) (ci := 10) (v := .ref t0) (C := RX8) (T := TX8) (N := 12) hx hb hts iRX8 hown hK hP 5 rfl rfl 0 (by decide) (hts (.fieldLink RX8 14 "RecordBench" "tape" "LRecordBench$Row;") (by decide +kernel)) (fun _ h9 => h9) rfl dX8_load_11 ?_
    have hFc := va_free (wc := [(t0, .inr (7, [.ref tb, .int 0]))]) hD hS hA [4] rfl
    refine va_calli (va_runV (As := []) (rest := []) ⟨hx, hb, hml, hown, hts⟩ (c_X5_size l dC dI t0 tb 0 H.size) (cwV 0 hts gp_X8_load_X5_size_76 rfl rfl rfl (by decide +kernel) ⟨Nat.le_of_ble_eq_true rfl, Nat.le_of_ble_eq_true rfl⟩) ⟨Pr.blind _, va_recv hK hP (ci := 7) (q0 := 4) rfl rfl, fun U hU hW => ⟨rfl, Pr.at (hP.sub (ws' := [(t0, .inr (7, [.ref tb, .int 0]))]) [4] rfl) (hK.sub (tys' := []) [] rfl) (hD.sub (ws' := [(t0, .inr (7, [.ref tb, .int 0]))]) [4] (by decide) rfl) hN hZ hS hFc hU hW⟩⟩ rfl rfl hl.1 rfl (lv_room (Nat.le_of_ble_eq_true rfl)) dX8_load_14 ⟨Nat.le_of_ble_eq_true rfl, Nat.le_of_ble_eq_true rfl⟩) hS (fun q _ h => hFc q h) hFc (fun r_19 u t H1 locs ht hvm hw_20 hB hz1 hk1 hS => ?_)
    obtain ⟨hP, hD, hK⟩ := Bq.join (wr := [(q0, .inr (7, [.ref b0, .int 0])), (q1, .inr (7, [.ref b1, .int 0])), (q2, .inr (7, [.ref b2, .int 0])), (q3, .inr (7, [.ref b3, .int 0])), (h0, .inr (10, [.ref t0, .ref r0, .ref m0, .ref x0, v4, v5, v6, v7, v8, .int 0, .int (-1), .int 0])), (r0, .inl (cR, 4, .inr (.inr (.inr (.inr fR)))))]) hB ht hvm hP hD [4] [0, 1, 2, 3, 5, 6] rfl rfl (by decide) (by decide) hk1 hFc hK
    generalize H1 = H at hP hS ⊢
    have hP : va_P (dC, dI) vwCl [(q0, .inr (7, [.ref b0, .int 0])), (q1, .inr (7, [.ref b1, .int 0])), (q2, .inr (7, [.ref b2, .int 0])), (q3, .inr (7, [.ref b3, .int 0])), (h0, .inr (10, [.ref t0, .ref r0, .ref m0, .ref x0, v4, v5, v6, v7, v8, .int 0, .int (-1), .int 0])), (r0, .inl (cR, 4, .inr (.inr (.inr (.inr fR))))), (t0, .inr (7, [.ref tb, .int 0]))] H := hP
    have hD : va_D A [(q0, .inr (7, [.ref b0, .int 0])), (q1, .inr (7, [.ref b1, .int 0])), (q2, .inr (7, [.ref b2, .int 0])), (q3, .inr (7, [.ref b3, .int 0])), (h0, .inr (10, [.ref t0, .ref r0, .ref m0, .ref x0, v4, v5, v6, v7, v8, .int 0, .int (-1), .int 0])), (r0, .inl (cR, 4, .inr (.inr (.inr (.inr fR))))), (t0, .inr (7, [.ref tb, .int 0]))] := hD
    have hK : va_K (dC, dI) vwCl [(cR, .object RX5)] s := hK
    try dsimp only at hw_20
    have k_21 := hw_20
    refine W_toi (y := 0) k_21 ?_
    refine lv_bipush (v := 120) hx hb dX8_load_17 (by decide) ?_
    refine lv_icmp_le (tgt := 24) hx hb dX8_load_19 (by decide) (fun c_22 => ?_) (fun c_22 => absurd (by decide) c_22)
    refine lv_aload_n hx hb dX8_load_24 rfl (lv_at hl 0 rfl) ?_
    refine lv_aload_n hx hb dX8_load_25 rfl (lv_at hl 1 rfl) ?_
    refine va_get (D := (dC, dI)) (ci := 10) (v := .ref t0) (C := RX8) (T := TX8) (N := 12) hx hb hts iRX8 hown hK hP 4 rfl rfl 0 (by decide) (hts (.fieldLink RX8 14 "RecordBench" "tape" "LRecordBench$Row;") (by decide +kernel)) (fun _ h9 => h9) rfl dX8_load_26 ?_
    refine lv_iconst (v := 0) hx hb dX8_load_29 (by decide) ?_
    refine lv_aload_n hx hb dX8_load_30 rfl (lv_at hl 1 rfl) ?_
    refine va_get (D := (dC, dI)) (ci := 10) (v := .ref t0) (C := RX8) (T := TX8) (N := 12) hx hb hts iRX8 hown hK hP 4 rfl rfl 0 (by decide) (hts (.fieldLink RX8 14 "RecordBench" "tape" "LRecordBench$Row;") (by decide +kernel)) (fun _ h9 => h9) rfl dX8_load_31 ?_
    have hFc := va_free (wc := [(t0, .inr (7, [.ref tb, .int 0]))]) hD hS hA [6] rfl
    refine va_calli (va_runV (As := []) (rest := [.int 0, .ref t0, .ref q1]) ⟨hx, hb, hml, hown, hts⟩ (c_X5_size l dC dI t0 tb 0 H.size) (cwV 0 hts gp_X8_load_X5_size_76 rfl rfl rfl (by decide +kernel) ⟨Nat.le_of_ble_eq_true rfl, Nat.le_of_ble_eq_true rfl⟩) ⟨Pr.blind _, va_recv hK hP (ci := 7) (q0 := 6) rfl rfl, fun U hU hW => ⟨rfl, Pr.at (hP.sub (ws' := [(t0, .inr (7, [.ref tb, .int 0]))]) [6] rfl) (hK.sub (tys' := []) [] rfl) (hD.sub (ws' := [(t0, .inr (7, [.ref tb, .int 0]))]) [6] (by decide) rfl) hN hZ hS hFc hU hW⟩⟩ rfl rfl hl.1 rfl (lv_room (Nat.le_of_ble_eq_true rfl)) dX8_load_34 ⟨Nat.le_of_ble_eq_true rfl, Nat.le_of_ble_eq_true rfl⟩) hS (fun q _ h => hFc q h) hFc (fun r_23 u t H1 locs ht hvm hw_24 hB hz1 hk1 hS => ?_)
    obtain ⟨hP, hD, hK⟩ := Bq.join (wr := [(q0, .inr (7, [.ref b0, .int 0])), (q1, .inr (7, [.ref b1, .int 0])), (q2, .inr (7, [.ref b2, .int 0])), (q3, .inr (7, [.ref b3, .int 0])), (h0, .inr (10, [.ref t0, .ref r0, .ref m0, .ref x0, v4, v5, v6, v7, v8, .int 0, .int (-1), .int 0])), (r0, .inl (cR, 4, .inr (.inr (.inr (.inr fR)))))]) hB ht hvm hP hD [6] [0, 1, 2, 3, 4, 5] rfl rfl (by decide) (by decide) hk1 hFc hK
    generalize H1 = H at hP hS ⊢
    have hP : va_P (dC, dI) vwCl [(q0, .inr (7, [.ref b0, .int 0])), (q1, .inr (7, [.ref b1, .int 0])), (q2, .inr (7, [.ref b2, .int 0])), (q3, .inr (7, [.ref b3, .int 0])), (h0, .inr (10, [.ref t0, .ref r0, .ref m0, .ref x0, v4, v5, v6, v7, v8, .int 0, .int (-1), .int 0])), (r0, .inl (cR, 4, .inr (.inr (.inr (.inr fR))))), (t0, .inr (7, [.ref tb, .int 0]))] H := hP
    have hD : va_D A [(q0, .inr (7, [.ref b0, .int 0])), (q1, .inr (7, [.ref b1, .int 0])), (q2, .inr (7, [.ref b2, .int 0])), (q3, .inr (7, [.ref b3, .int 0])), (h0, .inr (10, [.ref t0, .ref r0, .ref m0, .ref x0, v4, v5, v6, v7, v8, .int 0, .int (-1), .int 0])), (r0, .inl (cR, 4, .inr (.inr (.inr (.inr fR))))), (t0, .inr (7, [.ref tb, .int 0]))] := hD
    have hK : va_K (dC, dI) vwCl [(cR, .object RX5)] s := hK
    try dsimp only at hw_24
    have k_25 := hw_24
    refine W_toi (y := 0) k_25 ?_
    have hFc := va_free (wc := [(q1, .inr (7, [.ref b1, .int 0])), (t0, .inr (7, [.ref tb, .int 0]))]) hD hS hA [1, 6] rfl
    refine va_callv (va_runV (As := [.ref t0, .int 0, .int 0]) (rest := []) ⟨hx, hb, hml, hown, hts⟩ (c_X5_become0 l dC dI q1 b1 0 t0 tb 0 H.size) (cwV 3 hts gp_X8_load_X5_become0_132 rfl rfl rfl (by decide +kernel) ⟨Nat.le_of_ble_eq_true rfl, Nat.le_of_ble_eq_true rfl⟩) ⟨Pr.blind _, va_recv hK hP (ci := 7) (q0 := 1) rfl rfl, fun U hU hW => ⟨rfl, Pr.at (hP.sub (ws' := [(q1, .inr (7, [.ref b1, .int 0])), (t0, .inr (7, [.ref tb, .int 0]))]) [1, 6] rfl) (hK.sub (tys' := []) [] rfl) (hD.sub (ws' := [(q1, .inr (7, [.ref b1, .int 0])), (t0, .inr (7, [.ref tb, .int 0]))]) [1, 6] (by decide) rfl) hN hZ hS hFc hU hW⟩⟩ rfl rfl hl.1 rfl (lv_room (Nat.le_of_ble_eq_true rfl)) dX8_load_37 ⟨Nat.le_of_ble_eq_true rfl, Nat.le_of_ble_eq_true rfl⟩) hS (fun q _ h => hFc q h) hFc (fun u t H1 locs ht hvm hw_27 hB hz1 hk1 hS => ?_)
    obtain ⟨hP, hD, hK⟩ := Bq.join (wr := [(q0, .inr (7, [.ref b0, .int 0])), (q2, .inr (7, [.ref b2, .int 0])), (q3, .inr (7, [.ref b3, .int 0])), (h0, .inr (10, [.ref t0, .ref r0, .ref m0, .ref x0, v4, v5, v6, v7, v8, .int 0, .int (-1), .int 0])), (r0, .inl (cR, 4, .inr (.inr (.inr (.inr fR)))))]) hB ht hvm hP hD [1, 6] [0, 2, 3, 4, 5] rfl rfl (by decide) (by decide) hk1 hFc hK
    generalize H1 = H at hP hS ⊢
    have hP : va_P (dC, dI) vwCl [(q0, .inr (7, [.ref b0, .int 0])), (q2, .inr (7, [.ref b2, .int 0])), (q3, .inr (7, [.ref b3, .int 0])), (h0, .inr (10, [.ref t0, .ref r0, .ref m0, .ref x0, v4, v5, v6, v7, v8, .int 0, .int (-1), .int 0])), (r0, .inl (cR, 4, .inr (.inr (.inr (.inr fR))))), (q1, .inr (7, [.ref b1, .int 0])), (t0, .inr (7, [.ref tb, .int 0]))] H := hP
    have hD : va_D A [(q0, .inr (7, [.ref b0, .int 0])), (q2, .inr (7, [.ref b2, .int 0])), (q3, .inr (7, [.ref b3, .int 0])), (h0, .inr (10, [.ref t0, .ref r0, .ref m0, .ref x0, v4, v5, v6, v7, v8, .int 0, .int (-1), .int 0])), (r0, .inl (cR, 4, .inr (.inr (.inr (.inr fR))))), (q1, .inr (7, [.ref b1, .int 0])), (t0, .inr (7, [.ref tb, .int 0]))] := hD
    have hK : va_K (dC, dI) vwCl [(cR, .object RX5)] s := hK
    refine lv_aload_n hx hb dX8_load_40 rfl (lv_at hl 1 rfl) ?_
    refine va_get (D := (dC, dI)) (ci := 10) (v := .ref t0) (C := RX8) (T := TX8) (N := 12) hx hb hts iRX8 hown hK hP 3 rfl rfl 0 (by decide) (hts (.fieldLink RX8 14 "RecordBench" "tape" "LRecordBench$Row;") (by decide +kernel)) (fun _ h9 => h9) rfl dX8_load_41 ?_
    refine lv_iconst (v := 0) hx hb dX8_load_44 (by decide) ?_
    have hFc := va_free (wc := [(t0, .inr (7, [.ref tb, .int 0]))]) hD hS hA [6] rfl
    refine va_calli (va_runV (As := [.int 0]) (rest := []) ⟨hx, hb, hml, hown, hts⟩ (c_X5_cut0 l dC dI t0 tb H.size) (cwV 1 hts gp_X8_load_X5_cut0_83 rfl rfl rfl (by decide +kernel) ⟨Nat.le_of_ble_eq_true rfl, Nat.le_of_ble_eq_true rfl⟩) ⟨Pr.blind _, va_recv hK hP (ci := 7) (q0 := 6) rfl rfl, fun U hU hW => ⟨rfl, Pr.at (hP.sub (ws' := [(t0, .inr (7, [.ref tb, .int 0]))]) [6] rfl) (hK.sub (tys' := []) [] rfl) (hD.sub (ws' := [(t0, .inr (7, [.ref tb, .int 0]))]) [6] (by decide) rfl) hN hZ hS hFc hU hW⟩⟩ rfl rfl hl.1 rfl (lv_room (Nat.le_of_ble_eq_true rfl)) dX8_load_45 ⟨Nat.le_of_ble_eq_true rfl, Nat.le_of_ble_eq_true rfl⟩) hS (fun q _ h => hFc q h) hFc (fun r_28 u t H1 locs ht hvm hw_29 hB hz1 hk1 hS => ?_)
    obtain ⟨hP, hD, hK⟩ := Bq.join (wr := [(q0, .inr (7, [.ref b0, .int 0])), (q2, .inr (7, [.ref b2, .int 0])), (q3, .inr (7, [.ref b3, .int 0])), (h0, .inr (10, [.ref t0, .ref r0, .ref m0, .ref x0, v4, v5, v6, v7, v8, .int 0, .int (-1), .int 0])), (r0, .inl (cR, 4, .inr (.inr (.inr (.inr fR))))), (q1, .inr (7, [.ref b1, .int 0]))]) hB ht hvm hP hD [6] [0, 1, 2, 3, 4, 5] rfl rfl (by decide) (by decide) hk1 hFc hK
    generalize H1 = H at hP hS ⊢
    have hP : va_P (dC, dI) vwCl [(q0, .inr (7, [.ref b0, .int 0])), (q2, .inr (7, [.ref b2, .int 0])), (q3, .inr (7, [.ref b3, .int 0])), (h0, .inr (10, [.ref t0, .ref r0, .ref m0, .ref x0, v4, v5, v6, v7, v8, .int 0, .int (-1), .int 0])), (r0, .inl (cR, 4, .inr (.inr (.inr (.inr fR))))), (q1, .inr (7, [.ref b1, .int 0])), (t0, .inr (7, [.ref tb, .int 0]))] H := hP
    have hD : va_D A [(q0, .inr (7, [.ref b0, .int 0])), (q2, .inr (7, [.ref b2, .int 0])), (q3, .inr (7, [.ref b3, .int 0])), (h0, .inr (10, [.ref t0, .ref r0, .ref m0, .ref x0, v4, v5, v6, v7, v8, .int 0, .int (-1), .int 0])), (r0, .inl (cR, 4, .inr (.inr (.inr (.inr fR))))), (q1, .inr (7, [.ref b1, .int 0])), (t0, .inr (7, [.ref tb, .int 0]))] := hD
    have hK : va_K (dC, dI) vwCl [(cR, .object RX5)] s := hK
    try dsimp only at hw_29
    have k_30 := hw_29
    refine W_toi (y := 1) k_30 ?_
    refine lv_pop hx hb dX8_load_48 rfl ?_
    refine lv_aload_n hx hb dX8_load_49 rfl (lv_at hl 0 rfl) ?_
    have hFc := va_free (wc := [(q1, .inr (7, [.ref b1, .int 0]))]) hD hS hA [5] rfl
    refine va_calli (va_runV (As := []) (rest := []) ⟨hx, hb, hml, hown, hts⟩ (c_X5_size l dC dI q1 b1 0 H.size) (cwV 0 hts gp_X8_load_X5_size_76 rfl rfl rfl (by decide +kernel) ⟨Nat.le_of_ble_eq_true rfl, Nat.le_of_ble_eq_true rfl⟩) ⟨Pr.blind _, va_recv hK hP (ci := 7) (q0 := 5) rfl rfl, fun U hU hW => ⟨rfl, Pr.at (hP.sub (ws' := [(q1, .inr (7, [.ref b1, .int 0]))]) [5] rfl) (hK.sub (tys' := []) [] rfl) (hD.sub (ws' := [(q1, .inr (7, [.ref b1, .int 0]))]) [5] (by decide) rfl) hN hZ hS hFc hU hW⟩⟩ rfl rfl hl.1 rfl (lv_room (Nat.le_of_ble_eq_true rfl)) dX8_load_50 ⟨Nat.le_of_ble_eq_true rfl, Nat.le_of_ble_eq_true rfl⟩) hS (fun q _ h => hFc q h) hFc (fun r_31 u t H1 locs ht hvm hw_32 hB hz1 hk1 hS => ?_)
    obtain ⟨hP, hD, hK⟩ := Bq.join (wr := [(q0, .inr (7, [.ref b0, .int 0])), (q2, .inr (7, [.ref b2, .int 0])), (q3, .inr (7, [.ref b3, .int 0])), (h0, .inr (10, [.ref t0, .ref r0, .ref m0, .ref x0, v4, v5, v6, v7, v8, .int 0, .int (-1), .int 0])), (r0, .inl (cR, 4, .inr (.inr (.inr (.inr fR))))), (t0, .inr (7, [.ref tb, .int 0]))]) hB ht hvm hP hD [5] [0, 1, 2, 3, 4, 6] rfl rfl (by decide) (by decide) hk1 hFc hK
    generalize H1 = H at hP hS ⊢
    have hP : va_P (dC, dI) vwCl [(q0, .inr (7, [.ref b0, .int 0])), (q2, .inr (7, [.ref b2, .int 0])), (q3, .inr (7, [.ref b3, .int 0])), (h0, .inr (10, [.ref t0, .ref r0, .ref m0, .ref x0, v4, v5, v6, v7, v8, .int 0, .int (-1), .int 0])), (r0, .inl (cR, 4, .inr (.inr (.inr (.inr fR))))), (t0, .inr (7, [.ref tb, .int 0])), (q1, .inr (7, [.ref b1, .int 0]))] H := hP
    have hD : va_D A [(q0, .inr (7, [.ref b0, .int 0])), (q2, .inr (7, [.ref b2, .int 0])), (q3, .inr (7, [.ref b3, .int 0])), (h0, .inr (10, [.ref t0, .ref r0, .ref m0, .ref x0, v4, v5, v6, v7, v8, .int 0, .int (-1), .int 0])), (r0, .inl (cR, 4, .inr (.inr (.inr (.inr fR))))), (t0, .inr (7, [.ref tb, .int 0])), (q1, .inr (7, [.ref b1, .int 0]))] := hD
    have hK : va_K (dC, dI) vwCl [(cR, .object RX5)] s := hK
    try dsimp only at hw_32
    have k_33 := hw_32
    refine W_toi (y := 0) k_33 ?_
    have hP9 := hP.sub (ws' := []) [] rfl
    have hD9 := hD.sub (ws' := []) [] (by decide) rfl
    have hK9 := hK.sub (tys' := []) [] rfl
    exact W.iret (v := 0) hx hb hr (fun t ht hW => ⟨⟨0, (), rfl, (if_neg ho).symm, by rw [ht]; exact hP9, va_K.moved hW.alike hK9, hD9⟩, hS.F ht⟩) hS.2.2 dX8_load_53
  · refine W.eq (g2 := F0 m 5 ls [.ref q2]) rfl ?_
    refine lv_astore_n (lv' := [(2, .ref q2), (0, .ref h0), (1, .int p0)]) hx hb dX8_load_5 rfl hl (by decide) rfl (fun ls hl => ?_)
    refine lv_aload_n hx hb dX8_load_6 rfl (lv_at hl 0 rfl) ?_
    refine lv_ifnull hx hb dX8_load_7 ?_
    refine lv_aload_n hx hb dX8_load_10 rfl (lv_at hl 1 rfl) ?_
    refine va_get (D := (dC, dI)) (ci := 10) (v := .ref t0) (C := RX8) (T := TX8) (N := 12) hx hb hts iRX8 hown hK hP 5 rfl rfl 0 (by decide) (hts (.fieldLink RX8 14 "RecordBench" "tape" "LRecordBench$Row;") (by decide +kernel)) (fun _ h9 => h9) rfl dX8_load_11 ?_
    have hFc := va_free (wc := [(t0, .inr (7, [.ref tb, .int 0]))]) hD hS hA [4] rfl
    refine va_calli (va_runV (As := []) (rest := []) ⟨hx, hb, hml, hown, hts⟩ (c_X5_size l dC dI t0 tb 0 H.size) (cwV 0 hts gp_X8_load_X5_size_76 rfl rfl rfl (by decide +kernel) ⟨Nat.le_of_ble_eq_true rfl, Nat.le_of_ble_eq_true rfl⟩) ⟨Pr.blind _, va_recv hK hP (ci := 7) (q0 := 4) rfl rfl, fun U hU hW => ⟨rfl, Pr.at (hP.sub (ws' := [(t0, .inr (7, [.ref tb, .int 0]))]) [4] rfl) (hK.sub (tys' := []) [] rfl) (hD.sub (ws' := [(t0, .inr (7, [.ref tb, .int 0]))]) [4] (by decide) rfl) hN hZ hS hFc hU hW⟩⟩ rfl rfl hl.1 rfl (lv_room (Nat.le_of_ble_eq_true rfl)) dX8_load_14 ⟨Nat.le_of_ble_eq_true rfl, Nat.le_of_ble_eq_true rfl⟩) hS (fun q _ h => hFc q h) hFc (fun r_34 u t H1 locs ht hvm hw_35 hB hz1 hk1 hS => ?_)
    obtain ⟨hP, hD, hK⟩ := Bq.join (wr := [(q0, .inr (7, [.ref b0, .int 0])), (q1, .inr (7, [.ref b1, .int 0])), (q2, .inr (7, [.ref b2, .int 0])), (q3, .inr (7, [.ref b3, .int 0])), (h0, .inr (10, [.ref t0, .ref r0, .ref m0, .ref x0, v4, v5, v6, v7, v8, .int 0, .int (-1), .int 0])), (r0, .inl (cR, 4, .inr (.inr (.inr (.inr fR)))))]) hB ht hvm hP hD [4] [0, 1, 2, 3, 5, 6] rfl rfl (by decide) (by decide) hk1 hFc hK
    generalize H1 = H at hP hS ⊢
    have hP : va_P (dC, dI) vwCl [(q0, .inr (7, [.ref b0, .int 0])), (q1, .inr (7, [.ref b1, .int 0])), (q2, .inr (7, [.ref b2, .int 0])), (q3, .inr (7, [.ref b3, .int 0])), (h0, .inr (10, [.ref t0, .ref r0, .ref m0, .ref x0, v4, v5, v6, v7, v8, .int 0, .int (-1), .int 0])), (r0, .inl (cR, 4, .inr (.inr (.inr (.inr fR))))), (t0, .inr (7, [.ref tb, .int 0]))] H := hP
    have hD : va_D A [(q0, .inr (7, [.ref b0, .int 0])), (q1, .inr (7, [.ref b1, .int 0])), (q2, .inr (7, [.ref b2, .int 0])), (q3, .inr (7, [.ref b3, .int 0])), (h0, .inr (10, [.ref t0, .ref r0, .ref m0, .ref x0, v4, v5, v6, v7, v8, .int 0, .int (-1), .int 0])), (r0, .inl (cR, 4, .inr (.inr (.inr (.inr fR))))), (t0, .inr (7, [.ref tb, .int 0]))] := hD
    have hK : va_K (dC, dI) vwCl [(cR, .object RX5)] s := hK
    try dsimp only at hw_35
    have k_36 := hw_35
    refine W_toi (y := 0) k_36 ?_
    refine lv_bipush (v := 120) hx hb dX8_load_17 (by decide) ?_
    refine lv_icmp_le (tgt := 24) hx hb dX8_load_19 (by decide) (fun c_37 => ?_) (fun c_37 => absurd (by decide) c_37)
    refine lv_aload_n hx hb dX8_load_24 rfl (lv_at hl 0 rfl) ?_
    refine lv_aload_n hx hb dX8_load_25 rfl (lv_at hl 1 rfl) ?_
    refine va_get (D := (dC, dI)) (ci := 10) (v := .ref t0) (C := RX8) (T := TX8) (N := 12) hx hb hts iRX8 hown hK hP 4 rfl rfl 0 (by decide) (hts (.fieldLink RX8 14 "RecordBench" "tape" "LRecordBench$Row;") (by decide +kernel)) (fun _ h9 => h9) rfl dX8_load_26 ?_
    refine lv_iconst (v := 0) hx hb dX8_load_29 (by decide) ?_
    refine lv_aload_n hx hb dX8_load_30 rfl (lv_at hl 1 rfl) ?_
    refine va_get (D := (dC, dI)) (ci := 10) (v := .ref t0) (C := RX8) (T := TX8) (N := 12) hx hb hts iRX8 hown hK hP 4 rfl rfl 0 (by decide) (hts (.fieldLink RX8 14 "RecordBench" "tape" "LRecordBench$Row;") (by decide +kernel)) (fun _ h9 => h9) rfl dX8_load_31 ?_
    have hFc := va_free (wc := [(t0, .inr (7, [.ref tb, .int 0]))]) hD hS hA [6] rfl
    refine va_calli (va_runV (As := []) (rest := [.int 0, .ref t0, .ref q2]) ⟨hx, hb, hml, hown, hts⟩ (c_X5_size l dC dI t0 tb 0 H.size) (cwV 0 hts gp_X8_load_X5_size_76 rfl rfl rfl (by decide +kernel) ⟨Nat.le_of_ble_eq_true rfl, Nat.le_of_ble_eq_true rfl⟩) ⟨Pr.blind _, va_recv hK hP (ci := 7) (q0 := 6) rfl rfl, fun U hU hW => ⟨rfl, Pr.at (hP.sub (ws' := [(t0, .inr (7, [.ref tb, .int 0]))]) [6] rfl) (hK.sub (tys' := []) [] rfl) (hD.sub (ws' := [(t0, .inr (7, [.ref tb, .int 0]))]) [6] (by decide) rfl) hN hZ hS hFc hU hW⟩⟩ rfl rfl hl.1 rfl (lv_room (Nat.le_of_ble_eq_true rfl)) dX8_load_34 ⟨Nat.le_of_ble_eq_true rfl, Nat.le_of_ble_eq_true rfl⟩) hS (fun q _ h => hFc q h) hFc (fun r_38 u t H1 locs ht hvm hw_39 hB hz1 hk1 hS => ?_)
    obtain ⟨hP, hD, hK⟩ := Bq.join (wr := [(q0, .inr (7, [.ref b0, .int 0])), (q1, .inr (7, [.ref b1, .int 0])), (q2, .inr (7, [.ref b2, .int 0])), (q3, .inr (7, [.ref b3, .int 0])), (h0, .inr (10, [.ref t0, .ref r0, .ref m0, .ref x0, v4, v5, v6, v7, v8, .int 0, .int (-1), .int 0])), (r0, .inl (cR, 4, .inr (.inr (.inr (.inr fR)))))]) hB ht hvm hP hD [6] [0, 1, 2, 3, 4, 5] rfl rfl (by decide) (by decide) hk1 hFc hK
    generalize H1 = H at hP hS ⊢
    have hP : va_P (dC, dI) vwCl [(q0, .inr (7, [.ref b0, .int 0])), (q1, .inr (7, [.ref b1, .int 0])), (q2, .inr (7, [.ref b2, .int 0])), (q3, .inr (7, [.ref b3, .int 0])), (h0, .inr (10, [.ref t0, .ref r0, .ref m0, .ref x0, v4, v5, v6, v7, v8, .int 0, .int (-1), .int 0])), (r0, .inl (cR, 4, .inr (.inr (.inr (.inr fR))))), (t0, .inr (7, [.ref tb, .int 0]))] H := hP
    have hD : va_D A [(q0, .inr (7, [.ref b0, .int 0])), (q1, .inr (7, [.ref b1, .int 0])), (q2, .inr (7, [.ref b2, .int 0])), (q3, .inr (7, [.ref b3, .int 0])), (h0, .inr (10, [.ref t0, .ref r0, .ref m0, .ref x0, v4, v5, v6, v7, v8, .int 0, .int (-1), .int 0])), (r0, .inl (cR, 4, .inr (.inr (.inr (.inr fR))))), (t0, .inr (7, [.ref tb, .int 0]))] := hD
    have hK : va_K (dC, dI) vwCl [(cR, .object RX5)] s := hK
    try dsimp only at hw_39
    have k_40 := hw_39
    refine W_toi (y := 0) k_40 ?_
    have hFc := va_free (wc := [(q2, .inr (7, [.ref b2, .int 0])), (t0, .inr (7, [.ref tb, .int 0]))]) hD hS hA [2, 6] rfl
    refine va_callv (va_runV (As := [.ref t0, .int 0, .int 0]) (rest := []) ⟨hx, hb, hml, hown, hts⟩ (c_X5_become0 l dC dI q2 b2 0 t0 tb 0 H.size) (cwV 3 hts gp_X8_load_X5_become0_132 rfl rfl rfl (by decide +kernel) ⟨Nat.le_of_ble_eq_true rfl, Nat.le_of_ble_eq_true rfl⟩) ⟨Pr.blind _, va_recv hK hP (ci := 7) (q0 := 2) rfl rfl, fun U hU hW => ⟨rfl, Pr.at (hP.sub (ws' := [(q2, .inr (7, [.ref b2, .int 0])), (t0, .inr (7, [.ref tb, .int 0]))]) [2, 6] rfl) (hK.sub (tys' := []) [] rfl) (hD.sub (ws' := [(q2, .inr (7, [.ref b2, .int 0])), (t0, .inr (7, [.ref tb, .int 0]))]) [2, 6] (by decide) rfl) hN hZ hS hFc hU hW⟩⟩ rfl rfl hl.1 rfl (lv_room (Nat.le_of_ble_eq_true rfl)) dX8_load_37 ⟨Nat.le_of_ble_eq_true rfl, Nat.le_of_ble_eq_true rfl⟩) hS (fun q _ h => hFc q h) hFc (fun u t H1 locs ht hvm hw_42 hB hz1 hk1 hS => ?_)
    obtain ⟨hP, hD, hK⟩ := Bq.join (wr := [(q0, .inr (7, [.ref b0, .int 0])), (q1, .inr (7, [.ref b1, .int 0])), (q3, .inr (7, [.ref b3, .int 0])), (h0, .inr (10, [.ref t0, .ref r0, .ref m0, .ref x0, v4, v5, v6, v7, v8, .int 0, .int (-1), .int 0])), (r0, .inl (cR, 4, .inr (.inr (.inr (.inr fR)))))]) hB ht hvm hP hD [2, 6] [0, 1, 3, 4, 5] rfl rfl (by decide) (by decide) hk1 hFc hK
    generalize H1 = H at hP hS ⊢
    have hP : va_P (dC, dI) vwCl [(q0, .inr (7, [.ref b0, .int 0])), (q1, .inr (7, [.ref b1, .int 0])), (q3, .inr (7, [.ref b3, .int 0])), (h0, .inr (10, [.ref t0, .ref r0, .ref m0, .ref x0, v4, v5, v6, v7, v8, .int 0, .int (-1), .int 0])), (r0, .inl (cR, 4, .inr (.inr (.inr (.inr fR))))), (q2, .inr (7, [.ref b2, .int 0])), (t0, .inr (7, [.ref tb, .int 0]))] H := hP
    have hD : va_D A [(q0, .inr (7, [.ref b0, .int 0])), (q1, .inr (7, [.ref b1, .int 0])), (q3, .inr (7, [.ref b3, .int 0])), (h0, .inr (10, [.ref t0, .ref r0, .ref m0, .ref x0, v4, v5, v6, v7, v8, .int 0, .int (-1), .int 0])), (r0, .inl (cR, 4, .inr (.inr (.inr (.inr fR))))), (q2, .inr (7, [.ref b2, .int 0])), (t0, .inr (7, [.ref tb, .int 0]))] := hD
    have hK : va_K (dC, dI) vwCl [(cR, .object RX5)] s := hK
    refine lv_aload_n hx hb dX8_load_40 rfl (lv_at hl 1 rfl) ?_
    refine va_get (D := (dC, dI)) (ci := 10) (v := .ref t0) (C := RX8) (T := TX8) (N := 12) hx hb hts iRX8 hown hK hP 3 rfl rfl 0 (by decide) (hts (.fieldLink RX8 14 "RecordBench" "tape" "LRecordBench$Row;") (by decide +kernel)) (fun _ h9 => h9) rfl dX8_load_41 ?_
    refine lv_iconst (v := 0) hx hb dX8_load_44 (by decide) ?_
    have hFc := va_free (wc := [(t0, .inr (7, [.ref tb, .int 0]))]) hD hS hA [6] rfl
    refine va_calli (va_runV (As := [.int 0]) (rest := []) ⟨hx, hb, hml, hown, hts⟩ (c_X5_cut0 l dC dI t0 tb H.size) (cwV 1 hts gp_X8_load_X5_cut0_83 rfl rfl rfl (by decide +kernel) ⟨Nat.le_of_ble_eq_true rfl, Nat.le_of_ble_eq_true rfl⟩) ⟨Pr.blind _, va_recv hK hP (ci := 7) (q0 := 6) rfl rfl, fun U hU hW => ⟨rfl, Pr.at (hP.sub (ws' := [(t0, .inr (7, [.ref tb, .int 0]))]) [6] rfl) (hK.sub (tys' := []) [] rfl) (hD.sub (ws' := [(t0, .inr (7, [.ref tb, .int 0]))]) [6] (by decide) rfl) hN hZ hS hFc hU hW⟩⟩ rfl rfl hl.1 rfl (lv_room (Nat.le_of_ble_eq_true rfl)) dX8_load_45 ⟨Nat.le_of_ble_eq_true rfl, Nat.le_of_ble_eq_true rfl⟩) hS (fun q _ h => hFc q h) hFc (fun r_43 u t H1 locs ht hvm hw_44 hB hz1 hk1 hS => ?_)
    obtain ⟨hP, hD, hK⟩ := Bq.join (wr := [(q0, .inr (7, [.ref b0, .int 0])), (q1, .inr (7, [.ref b1, .int 0])), (q3, .inr (7, [.ref b3, .int 0])), (h0, .inr (10, [.ref t0, .ref r0, .ref m0, .ref x0, v4, v5, v6, v7, v8, .int 0, .int (-1), .int 0])), (r0, .inl (cR, 4, .inr (.inr (.inr (.inr fR))))), (q2, .inr (7, [.ref b2, .int 0]))]) hB ht hvm hP hD [6] [0, 1, 2, 3, 4, 5] rfl rfl (by decide) (by decide) hk1 hFc hK
    generalize H1 = H at hP hS ⊢
    have hP : va_P (dC, dI) vwCl [(q0, .inr (7, [.ref b0, .int 0])), (q1, .inr (7, [.ref b1, .int 0])), (q3, .inr (7, [.ref b3, .int 0])), (h0, .inr (10, [.ref t0, .ref r0, .ref m0, .ref x0, v4, v5, v6, v7, v8, .int 0, .int (-1), .int 0])), (r0, .inl (cR, 4, .inr (.inr (.inr (.inr fR))))), (q2, .inr (7, [.ref b2, .int 0])), (t0, .inr (7, [.ref tb, .int 0]))] H := hP
    have hD : va_D A [(q0, .inr (7, [.ref b0, .int 0])), (q1, .inr (7, [.ref b1, .int 0])), (q3, .inr (7, [.ref b3, .int 0])), (h0, .inr (10, [.ref t0, .ref r0, .ref m0, .ref x0, v4, v5, v6, v7, v8, .int 0, .int (-1), .int 0])), (r0, .inl (cR, 4, .inr (.inr (.inr (.inr fR))))), (q2, .inr (7, [.ref b2, .int 0])), (t0, .inr (7, [.ref tb, .int 0]))] := hD
    have hK : va_K (dC, dI) vwCl [(cR, .object RX5)] s := hK
    try dsimp only at hw_44
    have k_45 := hw_44
    refine W_toi (y := 1) k_45 ?_
    refine lv_pop hx hb dX8_load_48 rfl ?_
    refine lv_aload_n hx hb dX8_load_49 rfl (lv_at hl 0 rfl) ?_
    have hFc := va_free (wc := [(q2, .inr (7, [.ref b2, .int 0]))]) hD hS hA [5] rfl
    refine va_calli (va_runV (As := []) (rest := []) ⟨hx, hb, hml, hown, hts⟩ (c_X5_size l dC dI q2 b2 0 H.size) (cwV 0 hts gp_X8_load_X5_size_76 rfl rfl rfl (by decide +kernel) ⟨Nat.le_of_ble_eq_true rfl, Nat.le_of_ble_eq_true rfl⟩) ⟨Pr.blind _, va_recv hK hP (ci := 7) (q0 := 5) rfl rfl, fun U hU hW => ⟨rfl, Pr.at (hP.sub (ws' := [(q2, .inr (7, [.ref b2, .int 0]))]) [5] rfl) (hK.sub (tys' := []) [] rfl) (hD.sub (ws' := [(q2, .inr (7, [.ref b2, .int 0]))]) [5] (by decide) rfl) hN hZ hS hFc hU hW⟩⟩ rfl rfl hl.1 rfl (lv_room (Nat.le_of_ble_eq_true rfl)) dX8_load_50 ⟨Nat.le_of_ble_eq_true rfl, Nat.le_of_ble_eq_true rfl⟩) hS (fun q _ h => hFc q h) hFc (fun r_46 u t H1 locs ht hvm hw_47 hB hz1 hk1 hS => ?_)
    obtain ⟨hP, hD, hK⟩ := Bq.join (wr := [(q0, .inr (7, [.ref b0, .int 0])), (q1, .inr (7, [.ref b1, .int 0])), (q3, .inr (7, [.ref b3, .int 0])), (h0, .inr (10, [.ref t0, .ref r0, .ref m0, .ref x0, v4, v5, v6, v7, v8, .int 0, .int (-1), .int 0])), (r0, .inl (cR, 4, .inr (.inr (.inr (.inr fR))))), (t0, .inr (7, [.ref tb, .int 0]))]) hB ht hvm hP hD [5] [0, 1, 2, 3, 4, 6] rfl rfl (by decide) (by decide) hk1 hFc hK
    generalize H1 = H at hP hS ⊢
    have hP : va_P (dC, dI) vwCl [(q0, .inr (7, [.ref b0, .int 0])), (q1, .inr (7, [.ref b1, .int 0])), (q3, .inr (7, [.ref b3, .int 0])), (h0, .inr (10, [.ref t0, .ref r0, .ref m0, .ref x0, v4, v5, v6, v7, v8, .int 0, .int (-1), .int 0])), (r0, .inl (cR, 4, .inr (.inr (.inr (.inr fR))))), (t0, .inr (7, [.ref tb, .int 0])), (q2, .inr (7, [.ref b2, .int 0]))] H := hP
    have hD : va_D A [(q0, .inr (7, [.ref b0, .int 0])), (q1, .inr (7, [.ref b1, .int 0])), (q3, .inr (7, [.ref b3, .int 0])), (h0, .inr (10, [.ref t0, .ref r0, .ref m0, .ref x0, v4, v5, v6, v7, v8, .int 0, .int (-1), .int 0])), (r0, .inl (cR, 4, .inr (.inr (.inr (.inr fR))))), (t0, .inr (7, [.ref tb, .int 0])), (q2, .inr (7, [.ref b2, .int 0]))] := hD
    have hK : va_K (dC, dI) vwCl [(cR, .object RX5)] s := hK
    try dsimp only at hw_47
    have k_48 := hw_47
    refine W_toi (y := 0) k_48 ?_
    have hP9 := hP.sub (ws' := []) [] rfl
    have hD9 := hD.sub (ws' := []) [] (by decide) rfl
    have hK9 := hK.sub (tys' := []) [] rfl
    exact W.iret (v := 0) hx hb hr (fun t ht hW => ⟨⟨0, (), rfl, (if_neg ho).symm, by rw [ht]; exact hP9, va_K.moved hW.alike hK9, hD9⟩, hS.F ht⟩) hS.2.2 dX8_load_53
  · refine W.eq (g2 := F0 m 5 ls [.ref q3]) rfl ?_
    refine lv_astore_n (lv' := [(2, .ref q3), (0, .ref h0), (1, .int p0)]) hx hb dX8_load_5 rfl hl (by decide) rfl (fun ls hl => ?_)
    refine lv_aload_n hx hb dX8_load_6 rfl (lv_at hl 0 rfl) ?_
    refine lv_ifnull hx hb dX8_load_7 ?_
    refine lv_aload_n hx hb dX8_load_10 rfl (lv_at hl 1 rfl) ?_
    refine va_get (D := (dC, dI)) (ci := 10) (v := .ref t0) (C := RX8) (T := TX8) (N := 12) hx hb hts iRX8 hown hK hP 5 rfl rfl 0 (by decide) (hts (.fieldLink RX8 14 "RecordBench" "tape" "LRecordBench$Row;") (by decide +kernel)) (fun _ h9 => h9) rfl dX8_load_11 ?_
    have hFc := va_free (wc := [(t0, .inr (7, [.ref tb, .int 0]))]) hD hS hA [4] rfl
    refine va_calli (va_runV (As := []) (rest := []) ⟨hx, hb, hml, hown, hts⟩ (c_X5_size l dC dI t0 tb 0 H.size) (cwV 0 hts gp_X8_load_X5_size_76 rfl rfl rfl (by decide +kernel) ⟨Nat.le_of_ble_eq_true rfl, Nat.le_of_ble_eq_true rfl⟩) ⟨Pr.blind _, va_recv hK hP (ci := 7) (q0 := 4) rfl rfl, fun U hU hW => ⟨rfl, Pr.at (hP.sub (ws' := [(t0, .inr (7, [.ref tb, .int 0]))]) [4] rfl) (hK.sub (tys' := []) [] rfl) (hD.sub (ws' := [(t0, .inr (7, [.ref tb, .int 0]))]) [4] (by decide) rfl) hN hZ hS hFc hU hW⟩⟩ rfl rfl hl.1 rfl (lv_room (Nat.le_of_ble_eq_true rfl)) dX8_load_14 ⟨Nat.le_of_ble_eq_true rfl, Nat.le_of_ble_eq_true rfl⟩) hS (fun q _ h => hFc q h) hFc (fun r_49 u t H1 locs ht hvm hw_50 hB hz1 hk1 hS => ?_)
    obtain ⟨hP, hD, hK⟩ := Bq.join (wr := [(q0, .inr (7, [.ref b0, .int 0])), (q1, .inr (7, [.ref b1, .int 0])), (q2, .inr (7, [.ref b2, .int 0])), (q3, .inr (7, [.ref b3, .int 0])), (h0, .inr (10, [.ref t0, .ref r0, .ref m0, .ref x0, v4, v5, v6, v7, v8, .int 0, .int (-1), .int 0])), (r0, .inl (cR, 4, .inr (.inr (.inr (.inr fR)))))]) hB ht hvm hP hD [4] [0, 1, 2, 3, 5, 6] rfl rfl (by decide) (by decide) hk1 hFc hK
    generalize H1 = H at hP hS ⊢
    have hP : va_P (dC, dI) vwCl [(q0, .inr (7, [.ref b0, .int 0])), (q1, .inr (7, [.ref b1, .int 0])), (q2, .inr (7, [.ref b2, .int 0])), (q3, .inr (7, [.ref b3, .int 0])), (h0, .inr (10, [.ref t0, .ref r0, .ref m0, .ref x0, v4, v5, v6, v7, v8, .int 0, .int (-1), .int 0])), (r0, .inl (cR, 4, .inr (.inr (.inr (.inr fR))))), (t0, .inr (7, [.ref tb, .int 0]))] H := hP
    have hD : va_D A [(q0, .inr (7, [.ref b0, .int 0])), (q1, .inr (7, [.ref b1, .int 0])), (q2, .inr (7, [.ref b2, .int 0])), (q3, .inr (7, [.ref b3, .int 0])), (h0, .inr (10, [.ref t0, .ref r0, .ref m0, .ref x0, v4, v5, v6, v7, v8, .int 0, .int (-1), .int 0])), (r0, .inl (cR, 4, .inr (.inr (.inr (.inr fR))))), (t0, .inr (7, [.ref tb, .int 0]))] := hD
    have hK : va_K (dC, dI) vwCl [(cR, .object RX5)] s := hK
    try dsimp only at hw_50
    have k_51 := hw_50
    refine W_toi (y := 0) k_51 ?_
    refine lv_bipush (v := 120) hx hb dX8_load_17 (by decide) ?_
    refine lv_icmp_le (tgt := 24) hx hb dX8_load_19 (by decide) (fun c_52 => ?_) (fun c_52 => absurd (by decide) c_52)
    refine lv_aload_n hx hb dX8_load_24 rfl (lv_at hl 0 rfl) ?_
    refine lv_aload_n hx hb dX8_load_25 rfl (lv_at hl 1 rfl) ?_
    refine va_get (D := (dC, dI)) (ci := 10) (v := .ref t0) (C := RX8) (T := TX8) (N := 12) hx hb hts iRX8 hown hK hP 4 rfl rfl 0 (by decide) (hts (.fieldLink RX8 14 "RecordBench" "tape" "LRecordBench$Row;") (by decide +kernel)) (fun _ h9 => h9) rfl dX8_load_26 ?_
    refine lv_iconst (v := 0) hx hb dX8_load_29 (by decide) ?_
    refine lv_aload_n hx hb dX8_load_30 rfl (lv_at hl 1 rfl) ?_
    refine va_get (D := (dC, dI)) (ci := 10) (v := .ref t0) (C := RX8) (T := TX8) (N := 12) hx hb hts iRX8 hown hK hP 4 rfl rfl 0 (by decide) (hts (.fieldLink RX8 14 "RecordBench" "tape" "LRecordBench$Row;") (by decide +kernel)) (fun _ h9 => h9) rfl dX8_load_31 ?_
    have hFc := va_free (wc := [(t0, .inr (7, [.ref tb, .int 0]))]) hD hS hA [6] rfl
    refine va_calli (va_runV (As := []) (rest := [.int 0, .ref t0, .ref q3]) ⟨hx, hb, hml, hown, hts⟩ (c_X5_size l dC dI t0 tb 0 H.size) (cwV 0 hts gp_X8_load_X5_size_76 rfl rfl rfl (by decide +kernel) ⟨Nat.le_of_ble_eq_true rfl, Nat.le_of_ble_eq_true rfl⟩) ⟨Pr.blind _, va_recv hK hP (ci := 7) (q0 := 6) rfl rfl, fun U hU hW => ⟨rfl, Pr.at (hP.sub (ws' := [(t0, .inr (7, [.ref tb, .int 0]))]) [6] rfl) (hK.sub (tys' := []) [] rfl) (hD.sub (ws' := [(t0, .inr (7, [.ref tb, .int 0]))]) [6] (by decide) rfl) hN hZ hS hFc hU hW⟩⟩ rfl rfl hl.1 rfl (lv_room (Nat.le_of_ble_eq_true rfl)) dX8_load_34 ⟨Nat.le_of_ble_eq_true rfl, Nat.le_of_ble_eq_true rfl⟩) hS (fun q _ h => hFc q h) hFc (fun r_53 u t H1 locs ht hvm hw_54 hB hz1 hk1 hS => ?_)
    obtain ⟨hP, hD, hK⟩ := Bq.join (wr := [(q0, .inr (7, [.ref b0, .int 0])), (q1, .inr (7, [.ref b1, .int 0])), (q2, .inr (7, [.ref b2, .int 0])), (q3, .inr (7, [.ref b3, .int 0])), (h0, .inr (10, [.ref t0, .ref r0, .ref m0, .ref x0, v4, v5, v6, v7, v8, .int 0, .int (-1), .int 0])), (r0, .inl (cR, 4, .inr (.inr (.inr (.inr fR)))))]) hB ht hvm hP hD [6] [0, 1, 2, 3, 4, 5] rfl rfl (by decide) (by decide) hk1 hFc hK
    generalize H1 = H at hP hS ⊢
    have hP : va_P (dC, dI) vwCl [(q0, .inr (7, [.ref b0, .int 0])), (q1, .inr (7, [.ref b1, .int 0])), (q2, .inr (7, [.ref b2, .int 0])), (q3, .inr (7, [.ref b3, .int 0])), (h0, .inr (10, [.ref t0, .ref r0, .ref m0, .ref x0, v4, v5, v6, v7, v8, .int 0, .int (-1), .int 0])), (r0, .inl (cR, 4, .inr (.inr (.inr (.inr fR))))), (t0, .inr (7, [.ref tb, .int 0]))] H := hP
    have hD : va_D A [(q0, .inr (7, [.ref b0, .int 0])), (q1, .inr (7, [.ref b1, .int 0])), (q2, .inr (7, [.ref b2, .int 0])), (q3, .inr (7, [.ref b3, .int 0])), (h0, .inr (10, [.ref t0, .ref r0, .ref m0, .ref x0, v4, v5, v6, v7, v8, .int 0, .int (-1), .int 0])), (r0, .inl (cR, 4, .inr (.inr (.inr (.inr fR))))), (t0, .inr (7, [.ref tb, .int 0]))] := hD
    have hK : va_K (dC, dI) vwCl [(cR, .object RX5)] s := hK
    try dsimp only at hw_54
    have k_55 := hw_54
    refine W_toi (y := 0) k_55 ?_
    have hFc := va_free (wc := [(q3, .inr (7, [.ref b3, .int 0])), (t0, .inr (7, [.ref tb, .int 0]))]) hD hS hA [3, 6] rfl
    refine va_callv (va_runV (As := [.ref t0, .int 0, .int 0]) (rest := []) ⟨hx, hb, hml, hown, hts⟩ (c_X5_become0 l dC dI q3 b3 0 t0 tb 0 H.size) (cwV 3 hts gp_X8_load_X5_become0_132 rfl rfl rfl (by decide +kernel) ⟨Nat.le_of_ble_eq_true rfl, Nat.le_of_ble_eq_true rfl⟩) ⟨Pr.blind _, va_recv hK hP (ci := 7) (q0 := 3) rfl rfl, fun U hU hW => ⟨rfl, Pr.at (hP.sub (ws' := [(q3, .inr (7, [.ref b3, .int 0])), (t0, .inr (7, [.ref tb, .int 0]))]) [3, 6] rfl) (hK.sub (tys' := []) [] rfl) (hD.sub (ws' := [(q3, .inr (7, [.ref b3, .int 0])), (t0, .inr (7, [.ref tb, .int 0]))]) [3, 6] (by decide) rfl) hN hZ hS hFc hU hW⟩⟩ rfl rfl hl.1 rfl (lv_room (Nat.le_of_ble_eq_true rfl)) dX8_load_37 ⟨Nat.le_of_ble_eq_true rfl, Nat.le_of_ble_eq_true rfl⟩) hS (fun q _ h => hFc q h) hFc (fun u t H1 locs ht hvm hw_57 hB hz1 hk1 hS => ?_)
    obtain ⟨hP, hD, hK⟩ := Bq.join (wr := [(q0, .inr (7, [.ref b0, .int 0])), (q1, .inr (7, [.ref b1, .int 0])), (q2, .inr (7, [.ref b2, .int 0])), (h0, .inr (10, [.ref t0, .ref r0, .ref m0, .ref x0, v4, v5, v6, v7, v8, .int 0, .int (-1), .int 0])), (r0, .inl (cR, 4, .inr (.inr (.inr (.inr fR)))))]) hB ht hvm hP hD [3, 6] [0, 1, 2, 4, 5] rfl rfl (by decide) (by decide) hk1 hFc hK
    generalize H1 = H at hP hS ⊢
    have hP : va_P (dC, dI) vwCl [(q0, .inr (7, [.ref b0, .int 0])), (q1, .inr (7, [.ref b1, .int 0])), (q2, .inr (7, [.ref b2, .int 0])), (h0, .inr (10, [.ref t0, .ref r0, .ref m0, .ref x0, v4, v5, v6, v7, v8, .int 0, .int (-1), .int 0])), (r0, .inl (cR, 4, .inr (.inr (.inr (.inr fR))))), (q3, .inr (7, [.ref b3, .int 0])), (t0, .inr (7, [.ref tb, .int 0]))] H := hP
    have hD : va_D A [(q0, .inr (7, [.ref b0, .int 0])), (q1, .inr (7, [.ref b1, .int 0])), (q2, .inr (7, [.ref b2, .int 0])), (h0, .inr (10, [.ref t0, .ref r0, .ref m0, .ref x0, v4, v5, v6, v7, v8, .int 0, .int (-1), .int 0])), (r0, .inl (cR, 4, .inr (.inr (.inr (.inr fR))))), (q3, .inr (7, [.ref b3, .int 0])), (t0, .inr (7, [.ref tb, .int 0]))] := hD
    have hK : va_K (dC, dI) vwCl [(cR, .object RX5)] s := hK
    refine lv_aload_n hx hb dX8_load_40 rfl (lv_at hl 1 rfl) ?_
    refine va_get (D := (dC, dI)) (ci := 10) (v := .ref t0) (C := RX8) (T := TX8) (N := 12) hx hb hts iRX8 hown hK hP 3 rfl rfl 0 (by decide) (hts (.fieldLink RX8 14 "RecordBench" "tape" "LRecordBench$Row;") (by decide +kernel)) (fun _ h9 => h9) rfl dX8_load_41 ?_
    refine lv_iconst (v := 0) hx hb dX8_load_44 (by decide) ?_
    have hFc := va_free (wc := [(t0, .inr (7, [.ref tb, .int 0]))]) hD hS hA [6] rfl
    refine va_calli (va_runV (As := [.int 0]) (rest := []) ⟨hx, hb, hml, hown, hts⟩ (c_X5_cut0 l dC dI t0 tb H.size) (cwV 1 hts gp_X8_load_X5_cut0_83 rfl rfl rfl (by decide +kernel) ⟨Nat.le_of_ble_eq_true rfl, Nat.le_of_ble_eq_true rfl⟩) ⟨Pr.blind _, va_recv hK hP (ci := 7) (q0 := 6) rfl rfl, fun U hU hW => ⟨rfl, Pr.at (hP.sub (ws' := [(t0, .inr (7, [.ref tb, .int 0]))]) [6] rfl) (hK.sub (tys' := []) [] rfl) (hD.sub (ws' := [(t0, .inr (7, [.ref tb, .int 0]))]) [6] (by decide) rfl) hN hZ hS hFc hU hW⟩⟩ rfl rfl hl.1 rfl (lv_room (Nat.le_of_ble_eq_true rfl)) dX8_load_45 ⟨Nat.le_of_ble_eq_true rfl, Nat.le_of_ble_eq_true rfl⟩) hS (fun q _ h => hFc q h) hFc (fun r_58 u t H1 locs ht hvm hw_59 hB hz1 hk1 hS => ?_)
    obtain ⟨hP, hD, hK⟩ := Bq.join (wr := [(q0, .inr (7, [.ref b0, .int 0])), (q1, .inr (7, [.ref b1, .int 0])), (q2, .inr (7, [.ref b2, .int 0])), (h0, .inr (10, [.ref t0, .ref r0, .ref m0, .ref x0, v4, v5, v6, v7, v8, .int 0, .int (-1), .int 0])), (r0, .inl (cR, 4, .inr (.inr (.inr (.inr fR))))), (q3, .inr (7, [.ref b3, .int 0]))]) hB ht hvm hP hD [6] [0, 1, 2, 3, 4, 5] rfl rfl (by decide) (by decide) hk1 hFc hK
    generalize H1 = H at hP hS ⊢
    have hP : va_P (dC, dI) vwCl [(q0, .inr (7, [.ref b0, .int 0])), (q1, .inr (7, [.ref b1, .int 0])), (q2, .inr (7, [.ref b2, .int 0])), (h0, .inr (10, [.ref t0, .ref r0, .ref m0, .ref x0, v4, v5, v6, v7, v8, .int 0, .int (-1), .int 0])), (r0, .inl (cR, 4, .inr (.inr (.inr (.inr fR))))), (q3, .inr (7, [.ref b3, .int 0])), (t0, .inr (7, [.ref tb, .int 0]))] H := hP
    have hD : va_D A [(q0, .inr (7, [.ref b0, .int 0])), (q1, .inr (7, [.ref b1, .int 0])), (q2, .inr (7, [.ref b2, .int 0])), (h0, .inr (10, [.ref t0, .ref r0, .ref m0, .ref x0, v4, v5, v6, v7, v8, .int 0, .int (-1), .int 0])), (r0, .inl (cR, 4, .inr (.inr (.inr (.inr fR))))), (q3, .inr (7, [.ref b3, .int 0])), (t0, .inr (7, [.ref tb, .int 0]))] := hD
    have hK : va_K (dC, dI) vwCl [(cR, .object RX5)] s := hK
    try dsimp only at hw_59
    have k_60 := hw_59
    refine W_toi (y := 1) k_60 ?_
    refine lv_pop hx hb dX8_load_48 rfl ?_
    refine lv_aload_n hx hb dX8_load_49 rfl (lv_at hl 0 rfl) ?_
    have hFc := va_free (wc := [(q3, .inr (7, [.ref b3, .int 0]))]) hD hS hA [5] rfl
    refine va_calli (va_runV (As := []) (rest := []) ⟨hx, hb, hml, hown, hts⟩ (c_X5_size l dC dI q3 b3 0 H.size) (cwV 0 hts gp_X8_load_X5_size_76 rfl rfl rfl (by decide +kernel) ⟨Nat.le_of_ble_eq_true rfl, Nat.le_of_ble_eq_true rfl⟩) ⟨Pr.blind _, va_recv hK hP (ci := 7) (q0 := 5) rfl rfl, fun U hU hW => ⟨rfl, Pr.at (hP.sub (ws' := [(q3, .inr (7, [.ref b3, .int 0]))]) [5] rfl) (hK.sub (tys' := []) [] rfl) (hD.sub (ws' := [(q3, .inr (7, [.ref b3, .int 0]))]) [5] (by decide) rfl) hN hZ hS hFc hU hW⟩⟩ rfl rfl hl.1 rfl (lv_room (Nat.le_of_ble_eq_true rfl)) dX8_load_50 ⟨Nat.le_of_ble_eq_true rfl, Nat.le_of_ble_eq_true rfl⟩) hS (fun q _ h => hFc q h) hFc (fun r_61 u t H1 locs ht hvm hw_62 hB hz1 hk1 hS => ?_)
    obtain ⟨hP, hD, hK⟩ := Bq.join (wr := [(q0, .inr (7, [.ref b0, .int 0])), (q1, .inr (7, [.ref b1, .int 0])), (q2, .inr (7, [.ref b2, .int 0])), (h0, .inr (10, [.ref t0, .ref r0, .ref m0, .ref x0, v4, v5, v6, v7, v8, .int 0, .int (-1), .int 0])), (r0, .inl (cR, 4, .inr (.inr (.inr (.inr fR))))), (t0, .inr (7, [.ref tb, .int 0]))]) hB ht hvm hP hD [5] [0, 1, 2, 3, 4, 6] rfl rfl (by decide) (by decide) hk1 hFc hK
    generalize H1 = H at hP hS ⊢
    have hP : va_P (dC, dI) vwCl [(q0, .inr (7, [.ref b0, .int 0])), (q1, .inr (7, [.ref b1, .int 0])), (q2, .inr (7, [.ref b2, .int 0])), (h0, .inr (10, [.ref t0, .ref r0, .ref m0, .ref x0, v4, v5, v6, v7, v8, .int 0, .int (-1), .int 0])), (r0, .inl (cR, 4, .inr (.inr (.inr (.inr fR))))), (t0, .inr (7, [.ref tb, .int 0])), (q3, .inr (7, [.ref b3, .int 0]))] H := hP
    have hD : va_D A [(q0, .inr (7, [.ref b0, .int 0])), (q1, .inr (7, [.ref b1, .int 0])), (q2, .inr (7, [.ref b2, .int 0])), (h0, .inr (10, [.ref t0, .ref r0, .ref m0, .ref x0, v4, v5, v6, v7, v8, .int 0, .int (-1), .int 0])), (r0, .inl (cR, 4, .inr (.inr (.inr (.inr fR))))), (t0, .inr (7, [.ref tb, .int 0])), (q3, .inr (7, [.ref b3, .int 0]))] := hD
    have hK : va_K (dC, dI) vwCl [(cR, .object RX5)] s := hK
    try dsimp only at hw_62
    have k_63 := hw_62
    refine W_toi (y := 0) k_63 ?_
    have hP9 := hP.sub (ws' := []) [] rfl
    have hD9 := hD.sub (ws' := []) [] (by decide) rfl
    have hK9 := hK.sub (tys' := []) [] rfl
    exact W.iret (v := 0) hx hb hr (fun t ht hW => ⟨⟨0, (), rfl, (if_neg ho).symm, by rw [ht]; exact hP9, va_K.moved hW.alike hK9, hD9⟩, hS.F ht⟩) hS.2.2 dX8_load_53
def wp_X8_at : List Cond := .code yX8_at cX8_at 4 (some .int) :: ([.methodLink RX8 128 yX8_recordOf, .instanceMethod yX8_recordOf, .selects RX8 yX8_recordOf yX8_recordOf, .initialized RX8, .methodLink RX8 195 yX5_byteAt, .instanceMethod yX5_byteAt, .selects RX5 yX5_byteAt yX5_byteAt, .initialized RX5, .code yX8_recordOf cX8_recordOf 2 (some (.object "RecordBench$Row")), .fieldLink RX8 18 "RecordBench" "records" "[LRecordBench$Row;", .code yX5_byteAt cX5_byteAt 2 (some .int), .fieldLink RX5 21 "RecordBench$Row" "size" "I"] ++ wsX80 ++ wsX50)
set_option maxRecDepth 20000 in
theorem gp_X8_at_X8_recordOf_128 : GoodIn wp_X8_at (wsV RX8 128 RX8 yX8_recordOf wp_X8_recordOf) := goodIn_p _ [9] rfl (by decide +kernel)
set_option maxRecDepth 20000 in
theorem gp_X8_at_X5_byteAt0_195 : GoodIn wp_X8_at (wsV RX8 195 RX5 yX5_byteAt wp_X5_byteAt0) := goodIn_p _ [11] rfl (by decide +kernel)
set_option maxHeartbeats 4000000 in
set_option maxRecDepth 100000 in
theorem c_X8_at (l : Launch) (dC : Nat → ClassId) (dI : Nat → Nat → Nat) (h0 : Nat) (t0 : Nat) (r0 : Nat) (m0 : Nat) (x0 : Nat) (v4 : Value) (v5 : Value) (v6 : Value) (v7 : Value) (v8 : Value) (cR : ClassId) (fR : Nat → Option Nat) (q0 : Nat) (q1 : Nat) (q2 : Nat) (q3 : Nat) (b0 : Nat) (b1 : Nat) (b2 : Nat) (b3 : Nat) (hq0 : fR 0 = some q0) (hq1 : fR 1 = some q1) (hq2 : fR 2 = some q2) (hq3 : fR 3 = some q3) (p0 : Int32) (p1 : Int32) (sz : Nat) : Met l yX8_at wp_X8_at ({ frames := 1, cells := 0, slots := 0, locals := 25 }) (va_Pc [.ref h0, .int p0, .int p1] (Pr (dC, dI) [(cR, .object RX5)] [(h0, .inr (10, [.ref t0, .ref r0, .ref m0, .ref x0, v4, v5, v6, v7, v8, .int 0, .int ((-1)), .int 0])), (r0, .inl (cR, 4, .inr (.inr (.inr (.inr fR))))), (q0, .inr (7, [.ref b0, .int 0])), (q1, .inr (7, [.ref b1, .int 0])), (q2, .inr (7, [.ref b2, .int 0])), (q3, .inr (7, [.ref b3, .int 0]))] sz)) (va_Qi (fun r : Int32 => (fun _ : Unit => r = -1)) (Bq (dC, dI) (fun _ : Unit => []) (fun _ : Unit => []) (va_A [(h0, .inr (10, [.ref t0, .ref r0, .ref m0, .ref x0, v4, v5, v6, v7, v8, .int 0, .int ((-1)), .int 0])), (r0, .inl (cR, 4, .inr (.inr (.inr (.inr fR))))), (q0, .inr (7, [.ref b0, .int 0])), (q1, .inr (7, [.ref b1, .int 0])), (q2, .inr (7, [.ref b2, .int 0])), (q3, .inr (7, [.ref b3, .int 0]))] sz)) (va_A [(h0, .inr (10, [.ref t0, .ref r0, .ref m0, .ref x0, v4, v5, v6, v7, v8, .int 0, .int ((-1)), .int 0])), (r0, .inl (cR, 4, .inr (.inr (.inr (.inr fR))))), (q0, .inr (7, [.ref b0, .int 0])), (q1, .inr (7, [.ref b1, .int 0])), (q2, .inr (7, [.ref b2, .int 0])), (q3, .inr (7, [.ref b3, .int 0]))] sz)) 0 0 (va_A [(h0, .inr (10, [.ref t0, .ref r0, .ref m0, .ref x0, v4, v5, v6, v7, v8, .int 0, .int ((-1)), .int 0])), (r0, .inl (cR, 4, .inr (.inr (.inr (.inr fR))))), (q0, .inr (7, [.ref b0, .int 0])), (q1, .inr (7, [.ref b1, .int 0])), (q2, .inr (7, [.ref b2, .int 0])), (q3, .inr (7, [.ref b3, .int 0]))] sz) := by
  refine Met.ofW (cc := cX8_at) (maxL := 4) (ret := (some .int)) (by decide) rfl ?_
  intro p e s m args below meth c s₁ B hml hv
  obtain ⟨rfl, hsz, hP, hK, hD0, hN, hZ⟩ := hv
  have hx := B.exec
  have hb := B.bytes
  have hr := B.returns
  have hts := atoms_spec (ws := wp_X8_at) B.pre
  have hown : s.vm.findClass RX8 = some m.cls := findClass_of_methodNamed B.named
  have hlocks := B.notSynchronized
  subst hsz
  have hD := hD0.self (sz := s.heap.size)
  generalize hAe : va_A [(h0, .inr (10, [.ref t0, .ref r0, .ref m0, .ref x0, v4, v5, v6, v7, v8, .int 0, .int ((-1)), .int 0])), (r0, .inl (cR, 4, .inr (.inr (.inr (.inr fR))))), (q0, .inr (7, [.ref b0, .int 0])), (q1, .inr (7, [.ref b1, .int 0])), (q2, .inr (7, [.ref b2, .int 0])), (q3, .inr (7, [.ref b3, .int 0]))] s.heap.size = A at hD hZ ⊢
  have hA : ∀ q : Nat, s.heap.size ≤ q → A q := fun q h => by rw [← hAe]; exact Or.inr h
  have hS : va_S A s.heap s.heap [] := va_S.rf
  have hP : va_P (dC, dI) vwCl [(h0, .inr (10, [.ref t0, .ref r0, .ref m0, .ref x0, v4, v5, v6, v7, v8, .int 0, .int ((-1)), .int 0])), (r0, .inl (cR, 4, .inr (.inr (.inr (.inr fR))))), (q0, .inr (7, [.ref b0, .int 0])), (q1, .inr (7, [.ref b1, .int 0])), (q2, .inr (7, [.ref b2, .int 0])), (q3, .inr (7, [.ref b3, .int 0]))] s.heap := hP
  have hl := lv_entry ([.ref h0, .int p0, .int p1]) (n := 4) (Nat.le_of_ble_eq_true rfl)
  rw [lg_entry_eq]
  generalize (lg_sl ([.ref h0, .int p0, .int p1]) ++ List.replicate (4 - (lg_sl ([.ref h0, .int p0, .int p1])).length) Slot.unset).toArray = ls at hl ⊢
  have hl : lv_has ls 4 [(0, .ref h0), (1, .int p0), (2, .int p1)] := hl
  refine lv_aload_n hx hb dX8_at_0 rfl (lv_at hl 0 rfl) ?_
  refine lv_iload_n hx hb dX8_at_1 rfl (lv_at hl 1 rfl) ?_
  have hFc := va_free (wc := [(h0, .inr (10, [.ref t0, .ref r0, .ref m0, .ref x0, v4, v5, v6, v7, v8, .int 0, .int ((-1)), .int 0])), (r0, .inl (cR, 4, .inr (.inr (.inr (.inr fR)))))]) hD hS hA [0, 1] rfl
  refine va_callq (va_runV (As := [.int p0]) (rest := []) ⟨hx, hb, hml, hown, hts⟩ (c_X8_recordOf l dC dI h0 t0 r0 m0 x0 (v4) (v5) (v6) (v7) (v8) cR fR q0 q1 q2 q3 (hq0) (hq1) (hq2) (hq3) p0 s.heap.size) (cwV 1 hts gp_X8_at_X8_recordOf_128 rfl rfl rfl (by decide +kernel) ⟨Nat.le_of_ble_eq_true rfl, Nat.le_of_ble_eq_true rfl⟩) ⟨Pr.blind _, va_recv hK hP (ci := 10) (q0 := 0) rfl rfl, fun U hU hW => ⟨rfl, Pr.at (hP.sub (ws' := [(h0, .inr (10, [.ref t0, .ref r0, .ref m0, .ref x0, v4, v5, v6, v7, v8, .int 0, .int ((-1)), .int 0])), (r0, .inl (cR, 4, .inr (.inr (.inr (.inr fR)))))]) [0, 1] rfl) (hK.sub (tys' := [(cR, .object RX5)]) [0] rfl) (hD.sub (ws' := [(h0, .inr (10, [.ref t0, .ref r0, .ref m0, .ref x0, v4, v5, v6, v7, v8, .int 0, .int ((-1)), .int 0])), (r0, .inl (cR, 4, .inr (.inr (.inr (.inr fR)))))]) [0, 1] (by decide) rfl) hN hZ hS hFc hU hW⟩⟩ rfl rfl hl.1 rfl (lv_room (Nat.le_of_ble_eq_true rfl)) dX8_at_2 ⟨Nat.le_of_ble_eq_true rfl, Nat.le_of_ble_eq_true rfl⟩) hS (fun q _ h => hFc q h) hFc (fun r_1 u t H1 locs ht hvm hw_2 hB hz1 hk1 hS => ?_)
  obtain ⟨hP, hD, hK⟩ := Bq.join (wr := [(q0, .inr (7, [.ref b0, .int 0])), (q1, .inr (7, [.ref b1, .int 0])), (q2, .inr (7, [.ref b2, .int 0])), (q3, .inr (7, [.ref b3, .int 0]))]) hB ht hvm hP hD [0, 1] [2, 3, 4, 5] rfl rfl (by decide) (by decide) hk1 hFc hK
  generalize H1 = H at hP hS ⊢
  have hP : va_P (dC, dI) vwCl [(q0, .inr (7, [.ref b0, .int 0])), (q1, .inr (7, [.ref b1, .int 0])), (q2, .inr (7, [.ref b2, .int 0])), (q3, .inr (7, [.ref b3, .int 0])), (h0, .inr (10, [.ref t0, .ref r0, .ref m0, .ref x0, v4, v5, v6, v7, v8, .int 0, .int (-1), .int 0])), (r0, .inl (cR, 4, .inr (.inr (.inr (.inr fR)))))] H := hP
  have hD : va_D A [(q0, .inr (7, [.ref b0, .int 0])), (q1, .inr (7, [.ref b1, .int 0])), (q2, .inr (7, [.ref b2, .int 0])), (q3, .inr (7, [.ref b3, .int 0])), (h0, .inr (10, [.ref t0, .ref r0, .ref m0, .ref x0, v4, v5, v6, v7, v8, .int 0, .int (-1), .int 0])), (r0, .inl (cR, 4, .inr (.inr (.inr (.inr fR)))))] := hD
  have hK : va_K (dC, dI) vwCl [(cR, .object RX5)] s := hK
  try dsimp only at hw_2
  have k_3 := hw_2
  rcases k_3 with ⟨ho, rfl⟩ | ⟨ho, rfl | rfl | rfl | rfl⟩
  · refine W.eq (g2 := F0 m 5 ls [.null]) rfl ?_
    refine lv_astore_nN (lv' := [(3, .null), (0, .ref h0), (1, .int p0), (2, .int p1)]) hx hb dX8_at_5 rfl hl (by decide) rfl (fun ls hl => ?_)
    refine lv_aload_nN hx hb dX8_at_6 rfl (lv_at hl 0 rfl) ?_
    refine lv_ifnonnullN hx hb dX8_at_7 ?_
    refine lv_iconst (v := (-1)) hx hb dX8_at_10 (by decide) ?_
    refine lv_goto (tgt := 19) hx hb dX8_at_11 (by decide) ?_
    have hP9 := hP.sub (ws' := []) [] rfl
    have hD9 := hD.sub (ws' := []) [] (by decide) rfl
    have hK9 := hK.sub (tys' := []) [] rfl
    exact W.iret (v := (-1)) hx hb hr (fun t ht hW => ⟨⟨(-1), (), rfl, rfl, by rw [ht]; exact hP9, va_K.moved hW.alike hK9, hD9⟩, hS.F ht⟩) hS.2.2 dX8_at_19
  · refine W.eq (g2 := F0 m 5 ls [.ref q0]) rfl ?_
    refine lv_astore_n (lv' := [(3, .ref q0), (0, .ref h0), (1, .int p0), (2, .int p1)]) hx hb dX8_at_5 rfl hl (by decide) rfl (fun ls hl => ?_)
    refine lv_aload_n hx hb dX8_at_6 rfl (lv_at hl 0 rfl) ?_
    refine lv_ifnonnull (tgt := 14) hx hb dX8_at_7 (by decide) ?_
    refine lv_aload_n hx hb dX8_at_14 rfl (lv_at hl 0 rfl) ?_
    refine lv_iload_n hx hb dX8_at_15 rfl (lv_at hl 3 rfl) ?_
    have hFc := va_free (wc := [(q0, .inr (7, [.ref b0, .int 0]))]) hD hS hA [0] rfl
    refine va_calli (va_runV (As := [.int p1]) (rest := []) ⟨hx, hb, hml, hown, hts⟩ (c_X5_byteAt0 l dC dI q0 b0 p1 H.size) (cwV 1 hts gp_X8_at_X5_byteAt0_195 rfl rfl rfl (by decide +kernel) ⟨Nat.le_of_ble_eq_true rfl, Nat.le_of_ble_eq_true rfl⟩) ⟨Pr.blind _, va_recv hK hP (ci := 7) (q0 := 0) rfl rfl, fun U hU hW => ⟨rfl, Pr.at (hP.sub (ws' := [(q0, .inr (7, [.ref b0, .int 0]))]) [0] rfl) (hK.sub (tys' := []) [] rfl) (hD.sub (ws' := [(q0, .inr (7, [.ref b0, .int 0]))]) [0] (by decide) rfl) hN hZ hS hFc hU hW⟩⟩ rfl rfl hl.1 rfl (lv_room (Nat.le_of_ble_eq_true rfl)) dX8_at_16 ⟨Nat.le_of_ble_eq_true rfl, Nat.le_of_ble_eq_true rfl⟩) hS (fun q _ h => hFc q h) hFc (fun r_4 u t H1 locs ht hvm hw_5 hB hz1 hk1 hS => ?_)
    obtain ⟨hP, hD, hK⟩ := Bq.join (wr := [(q1, .inr (7, [.ref b1, .int 0])), (q2, .inr (7, [.ref b2, .int 0])), (q3, .inr (7, [.ref b3, .int 0])), (h0, .inr (10, [.ref t0, .ref r0, .ref m0, .ref x0, v4, v5, v6, v7, v8, .int 0, .int (-1), .int 0])), (r0, .inl (cR, 4, .inr (.inr (.inr (.inr fR)))))]) hB ht hvm hP hD [0] [1, 2, 3, 4, 5] rfl rfl (by decide) (by decide) hk1 hFc hK
    generalize H1 = H at hP hS ⊢
    have hP : va_P (dC, dI) vwCl [(q1, .inr (7, [.ref b1, .int 0])), (q2, .inr (7, [.ref b2, .int 0])), (q3, .inr (7, [.ref b3, .int 0])), (h0, .inr (10, [.ref t0, .ref r0, .ref m0, .ref x0, v4, v5, v6, v7, v8, .int 0, .int (-1), .int 0])), (r0, .inl (cR, 4, .inr (.inr (.inr (.inr fR)))))] H := hP
    have hD : va_D A [(q1, .inr (7, [.ref b1, .int 0])), (q2, .inr (7, [.ref b2, .int 0])), (q3, .inr (7, [.ref b3, .int 0])), (h0, .inr (10, [.ref t0, .ref r0, .ref m0, .ref x0, v4, v5, v6, v7, v8, .int 0, .int (-1), .int 0])), (r0, .inl (cR, 4, .inr (.inr (.inr (.inr fR)))))] := hD
    have hK : va_K (dC, dI) vwCl [(cR, .object RX5)] s := hK
    try dsimp only at hw_5
    have k_6 := hw_5
    refine W_toi (y := -1) k_6 ?_
    have hP9 := hP.sub (ws' := []) [] rfl
    have hD9 := hD.sub (ws' := []) [] (by decide) rfl
    have hK9 := hK.sub (tys' := []) [] rfl
    exact W.iret (v := -1) hx hb hr (fun t ht hW => ⟨⟨-1, (), rfl, rfl, by rw [ht]; exact hP9, va_K.moved hW.alike hK9, hD9⟩, hS.F ht⟩) hS.2.2 dX8_at_19
  · refine W.eq (g2 := F0 m 5 ls [.ref q1]) rfl ?_
    refine lv_astore_n (lv' := [(3, .ref q1), (0, .ref h0), (1, .int p0), (2, .int p1)]) hx hb dX8_at_5 rfl hl (by decide) rfl (fun ls hl => ?_)
    refine lv_aload_n hx hb dX8_at_6 rfl (lv_at hl 0 rfl) ?_
    refine lv_ifnonnull (tgt := 14) hx hb dX8_at_7 (by decide) ?_
    refine lv_aload_n hx hb dX8_at_14 rfl (lv_at hl 0 rfl) ?_
    refine lv_iload_n hx hb dX8_at_15 rfl (lv_at hl 3 rfl) ?_
    have hFc := va_free (wc := [(q1, .inr (7, [.ref b1, .int 0]))]) hD hS hA [1] rfl
    refine va_calli (va_runV (As := [.int p1]) (rest := []) ⟨hx, hb, hml, hown, hts⟩ (c_X5_byteAt0 l dC dI q1 b1 p1 H.size) (cwV 1 hts gp_X8_at_X5_byteAt0_195 rfl rfl rfl (by decide +kernel) ⟨Nat.le_of_ble_eq_true rfl, Nat.le_of_ble_eq_true rfl⟩) ⟨Pr.blind _, va_recv hK hP (ci := 7) (q0 := 1) rfl rfl, fun U hU hW => ⟨rfl, Pr.at (hP.sub (ws' := [(q1, .inr (7, [.ref b1, .int 0]))]) [1] rfl) (hK.sub (tys' := []) [] rfl) (hD.sub (ws' := [(q1, .inr (7, [.ref b1, .int 0]))]) [1] (by decide) rfl) hN hZ hS hFc hU hW⟩⟩ rfl rfl hl.1 rfl (lv_room (Nat.le_of_ble_eq_true rfl)) dX8_at_16 ⟨Nat.le_of_ble_eq_true rfl, Nat.le_of_ble_eq_true rfl⟩) hS (fun q _ h => hFc q h) hFc (fun r_7 u t H1 locs ht hvm hw_8 hB hz1 hk1 hS => ?_)
    obtain ⟨hP, hD, hK⟩ := Bq.join (wr := [(q0, .inr (7, [.ref b0, .int 0])), (q2, .inr (7, [.ref b2, .int 0])), (q3, .inr (7, [.ref b3, .int 0])), (h0, .inr (10, [.ref t0, .ref r0, .ref m0, .ref x0, v4, v5, v6, v7, v8, .int 0, .int (-1), .int 0])), (r0, .inl (cR, 4, .inr (.inr (.inr (.inr fR)))))]) hB ht hvm hP hD [1] [0, 2, 3, 4, 5] rfl rfl (by decide) (by decide) hk1 hFc hK
    generalize H1 = H at hP hS ⊢
    have hP : va_P (dC, dI) vwCl [(q0, .inr (7, [.ref b0, .int 0])), (q2, .inr (7, [.ref b2, .int 0])), (q3, .inr (7, [.ref b3, .int 0])), (h0, .inr (10, [.ref t0, .ref r0, .ref m0, .ref x0, v4, v5, v6, v7, v8, .int 0, .int (-1), .int 0])), (r0, .inl (cR, 4, .inr (.inr (.inr (.inr fR)))))] H := hP
    have hD : va_D A [(q0, .inr (7, [.ref b0, .int 0])), (q2, .inr (7, [.ref b2, .int 0])), (q3, .inr (7, [.ref b3, .int 0])), (h0, .inr (10, [.ref t0, .ref r0, .ref m0, .ref x0, v4, v5, v6, v7, v8, .int 0, .int (-1), .int 0])), (r0, .inl (cR, 4, .inr (.inr (.inr (.inr fR)))))] := hD
    have hK : va_K (dC, dI) vwCl [(cR, .object RX5)] s := hK
    try dsimp only at hw_8
    have k_9 := hw_8
    refine W_toi (y := -1) k_9 ?_
    have hP9 := hP.sub (ws' := []) [] rfl
    have hD9 := hD.sub (ws' := []) [] (by decide) rfl
    have hK9 := hK.sub (tys' := []) [] rfl
    exact W.iret (v := -1) hx hb hr (fun t ht hW => ⟨⟨-1, (), rfl, rfl, by rw [ht]; exact hP9, va_K.moved hW.alike hK9, hD9⟩, hS.F ht⟩) hS.2.2 dX8_at_19
  · refine W.eq (g2 := F0 m 5 ls [.ref q2]) rfl ?_
    refine lv_astore_n (lv' := [(3, .ref q2), (0, .ref h0), (1, .int p0), (2, .int p1)]) hx hb dX8_at_5 rfl hl (by decide) rfl (fun ls hl => ?_)
    refine lv_aload_n hx hb dX8_at_6 rfl (lv_at hl 0 rfl) ?_
    refine lv_ifnonnull (tgt := 14) hx hb dX8_at_7 (by decide) ?_
    refine lv_aload_n hx hb dX8_at_14 rfl (lv_at hl 0 rfl) ?_
    refine lv_iload_n hx hb dX8_at_15 rfl (lv_at hl 3 rfl) ?_
    have hFc := va_free (wc := [(q2, .inr (7, [.ref b2, .int 0]))]) hD hS hA [2] rfl
    refine va_calli (va_runV (As := [.int p1]) (rest := []) ⟨hx, hb, hml, hown, hts⟩ (c_X5_byteAt0 l dC dI q2 b2 p1 H.size) (cwV 1 hts gp_X8_at_X5_byteAt0_195 rfl rfl rfl (by decide +kernel) ⟨Nat.le_of_ble_eq_true rfl, Nat.le_of_ble_eq_true rfl⟩) ⟨Pr.blind _, va_recv hK hP (ci := 7) (q0 := 2) rfl rfl, fun U hU hW => ⟨rfl, Pr.at (hP.sub (ws' := [(q2, .inr (7, [.ref b2, .int 0]))]) [2] rfl) (hK.sub (tys' := []) [] rfl) (hD.sub (ws' := [(q2, .inr (7, [.ref b2, .int 0]))]) [2] (by decide) rfl) hN hZ hS hFc hU hW⟩⟩ rfl rfl hl.1 rfl (lv_room (Nat.le_of_ble_eq_true rfl)) dX8_at_16 ⟨Nat.le_of_ble_eq_true rfl, Nat.le_of_ble_eq_true rfl⟩) hS (fun q _ h => hFc q h) hFc (fun r_10 u t H1 locs ht hvm hw_11 hB hz1 hk1 hS => ?_)
    obtain ⟨hP, hD, hK⟩ := Bq.join (wr := [(q0, .inr (7, [.ref b0, .int 0])), (q1, .inr (7, [.ref b1, .int 0])), (q3, .inr (7, [.ref b3, .int 0])), (h0, .inr (10, [.ref t0, .ref r0, .ref m0, .ref x0, v4, v5, v6, v7, v8, .int 0, .int (-1), .int 0])), (r0, .inl (cR, 4, .inr (.inr (.inr (.inr fR)))))]) hB ht hvm hP hD [2] [0, 1, 3, 4, 5] rfl rfl (by decide) (by decide) hk1 hFc hK
    generalize H1 = H at hP hS ⊢
    have hP : va_P (dC, dI) vwCl [(q0, .inr (7, [.ref b0, .int 0])), (q1, .inr (7, [.ref b1, .int 0])), (q3, .inr (7, [.ref b3, .int 0])), (h0, .inr (10, [.ref t0, .ref r0, .ref m0, .ref x0, v4, v5, v6, v7, v8, .int 0, .int (-1), .int 0])), (r0, .inl (cR, 4, .inr (.inr (.inr (.inr fR)))))] H := hP
    have hD : va_D A [(q0, .inr (7, [.ref b0, .int 0])), (q1, .inr (7, [.ref b1, .int 0])), (q3, .inr (7, [.ref b3, .int 0])), (h0, .inr (10, [.ref t0, .ref r0, .ref m0, .ref x0, v4, v5, v6, v7, v8, .int 0, .int (-1), .int 0])), (r0, .inl (cR, 4, .inr (.inr (.inr (.inr fR)))))] := hD
    have hK : va_K (dC, dI) vwCl [(cR, .object RX5)] s := hK
    try dsimp only at hw_11
    have k_12 := hw_11
    refine W_toi (y := -1) k_12 ?_
    have hP9 := hP.sub (ws' := []) [] rfl
    have hD9 := hD.sub (ws' := []) [] (by decide) rfl
    have hK9 := hK.sub (tys' := []) [] rfl
    exact W.iret (v := -1) hx hb hr (fun t ht hW => ⟨⟨-1, (), rfl, rfl, by rw [ht]; exact hP9, va_K.moved hW.alike hK9, hD9⟩, hS.F ht⟩) hS.2.2 dX8_at_19
  · refine W.eq (g2 := F0 m 5 ls [.ref q3]) rfl ?_
    refine lv_astore_n (lv' := [(3, .ref q3), (0, .ref h0), (1, .int p0), (2, .int p1)]) hx hb dX8_at_5 rfl hl (by decide) rfl (fun ls hl => ?_)
    refine lv_aload_n hx hb dX8_at_6 rfl (lv_at hl 0 rfl) ?_
    refine lv_ifnonnull (tgt := 14) hx hb dX8_at_7 (by decide) ?_
    refine lv_aload_n hx hb dX8_at_14 rfl (lv_at hl 0 rfl) ?_
    refine lv_iload_n hx hb dX8_at_15 rfl (lv_at hl 3 rfl) ?_
    have hFc := va_free (wc := [(q3, .inr (7, [.ref b3, .int 0]))]) hD hS hA [3] rfl
    refine va_calli (va_runV (As := [.int p1]) (rest := []) ⟨hx, hb, hml, hown, hts⟩ (c_X5_byteAt0 l dC dI q3 b3 p1 H.size) (cwV 1 hts gp_X8_at_X5_byteAt0_195 rfl rfl rfl (by decide +kernel) ⟨Nat.le_of_ble_eq_true rfl, Nat.le_of_ble_eq_true rfl⟩) ⟨Pr.blind _, va_recv hK hP (ci := 7) (q0 := 3) rfl rfl, fun U hU hW => ⟨rfl, Pr.at (hP.sub (ws' := [(q3, .inr (7, [.ref b3, .int 0]))]) [3] rfl) (hK.sub (tys' := []) [] rfl) (hD.sub (ws' := [(q3, .inr (7, [.ref b3, .int 0]))]) [3] (by decide) rfl) hN hZ hS hFc hU hW⟩⟩ rfl rfl hl.1 rfl (lv_room (Nat.le_of_ble_eq_true rfl)) dX8_at_16 ⟨Nat.le_of_ble_eq_true rfl, Nat.le_of_ble_eq_true rfl⟩) hS (fun q _ h => hFc q h) hFc (fun r_13 u t H1 locs ht hvm hw_14 hB hz1 hk1 hS => ?_)
    obtain ⟨hP, hD, hK⟩ := Bq.join (wr := [(q0, .inr (7, [.ref b0, .int 0])), (q1, .inr (7, [.ref b1, .int 0])), (q2, .inr (7, [.ref b2, .int 0])), (h0, .inr (10, [.ref t0, .ref r0, .ref m0, .ref x0, v4, v5, v6, v7, v8, .int 0, .int (-1), .int 0])), (r0, .inl (cR, 4, .inr (.inr (.inr (.inr fR)))))]) hB ht hvm hP hD [3] [0, 1, 2, 4, 5] rfl rfl (by decide) (by decide) hk1 hFc hK
    generalize H1 = H at hP hS ⊢
    have hP : va_P (dC, dI) vwCl [(q0, .inr (7, [.ref b0, .int 0])), (q1, .inr (7, [.ref b1, .int 0])), (q2, .inr (7, [.ref b2, .int 0])), (h0, .inr (10, [.ref t0, .ref r0, .ref m0, .ref x0, v4, v5, v6, v7, v8, .int 0, .int (-1), .int 0])), (r0, .inl (cR, 4, .inr (.inr (.inr (.inr fR)))))] H := hP
    have hD : va_D A [(q0, .inr (7, [.ref b0, .int 0])), (q1, .inr (7, [.ref b1, .int 0])), (q2, .inr (7, [.ref b2, .int 0])), (h0, .inr (10, [.ref t0, .ref r0, .ref m0, .ref x0, v4, v5, v6, v7, v8, .int 0, .int (-1), .int 0])), (r0, .inl (cR, 4, .inr (.inr (.inr (.inr fR)))))] := hD
    have hK : va_K (dC, dI) vwCl [(cR, .object RX5)] s := hK
    try dsimp only at hw_14
    have k_15 := hw_14
    refine W_toi (y := -1) k_15 ?_
    have hP9 := hP.sub (ws' := []) [] rfl
    have hD9 := hD.sub (ws' := []) [] (by decide) rfl
    have hK9 := hK.sub (tys' := []) [] rfl
    exact W.iret (v := -1) hx hb hr (fun t ht hW => ⟨⟨-1, (), rfl, rfl, by rw [ht]; exact hP9, va_K.moved hW.alike hK9, hD9⟩, hS.F ht⟩) hS.2.2 dX8_at_19
def wp_X8_feed : List Cond := .code yX8_feed cX8_feed 6 (some .int) :: ([.fieldLink RX8 14 "RecordBench" "tape" "LRecordBench$Row;", .methodLink RX8 76 yX5_size, .instanceMethod yX5_size, .selects RX5 yX5_size yX5_size, .initialized RX5, .methodLink RX8 80 yX5_pushWord, .instanceMethod yX5_pushWord, .selects RX5 yX5_pushWord yX5_pushWord, .code yX5_size cX5_size 1 (some .int), .fieldLink RX5 21 "RecordBench$Row" "size" "I", .code yX5_pushWord cX5_pushWord 2 none, .methodLink RX5 25 yX5_push, .instanceMethod yX5_push, .selects RX5 yX5_push yX5_push, .code yX5_push cX5_push 2 none, .fieldLink RX5 15 "RecordBench$Row" "bytes" "[I"] ++ wsX80 ++ wsX50)
set_option maxRecDepth 20000 in
theorem gp_X8_feed_X5_size_76 : GoodIn wp_X8_feed (wsV RX8 76 RX5 yX5_size wp_X5_size) := goodIn_p _ [9] rfl (by decide +kernel)
set_option maxRecDepth 20000 in
theorem gp_X8_feed_X5_pushWord_80 : GoodIn wp_X8_feed (wsV RX8 80 RX5 yX5_pushWord wp_X5_pushWord) := goodIn_p _ [11, 15] rfl (by decide +kernel)
set_option maxHeartbeats 4000000 in
set_option maxRecDepth 100000 in
theorem c_X8_feed (l : Launch) (dC : Nat → ClassId) (dI : Nat → Nat → Nat) (h0 : Nat) (t0 : Nat) (r0 : Nat) (m0 : Nat) (x0 : Nat) (v4 : Value) (v5 : Value) (v6 : Value) (v7 : Value) (v8 : Value) (tb : Nat) (cT : ClassId) (p0 : Int32) (p1 : Int32) (p2 : Int32) (p3 : Int32) (p4 : Int32) (sz : Nat) : Met l yX8_feed wp_X8_feed ({ frames := 2, cells := 0, slots := 0, locals := 50 }) (va_Pc [.ref h0, .int p0, .int p1, .int p2, .int p3, .int p4] (Pr (dC, dI) [(cT, .int)] [(h0, .inr (10, [.ref t0, .ref r0, .ref m0, .ref x0, v4, v5, v6, v7, v8, .int 0, .int ((-1)), .int 0])), (t0, .inr (7, [.ref tb, .int 0])), (tb, .inl (cT, 400, .inl (fun _ => 0)))] sz)) (va_Qi (fun r : Int32 => (fun _ : Unit => r = 20)) (Bq (dC, dI) (fun _ : Unit => []) (fun _ : Unit => []) (va_A [(h0, .inr (10, [.ref t0, .ref r0, .ref m0, .ref x0, v4, v5, v6, v7, v8, .int 0, .int ((-1)), .int 0])), (t0, .inr (7, [.ref tb, .int 0])), (tb, .inl (cT, 400, .inl (fun _ => 0)))] sz)) (va_A [(h0, .inr (10, [.ref t0, .ref r0, .ref m0, .ref x0, v4, v5, v6, v7, v8, .int 0, .int ((-1)), .int 0])), (t0, .inr (7, [.ref tb, .int 0])), (tb, .inl (cT, 400, .inl (fun _ => 0)))] sz)) 0 0 (va_A [(h0, .inr (10, [.ref t0, .ref r0, .ref m0, .ref x0, v4, v5, v6, v7, v8, .int 0, .int ((-1)), .int 0])), (t0, .inr (7, [.ref tb, .int 0])), (tb, .inl (cT, 400, .inl (fun _ => 0)))] sz) := by
  refine Met.ofW (cc := cX8_feed) (maxL := 6) (ret := (some .int)) (by decide) rfl ?_
  intro p e s m args below meth c s₁ B hml hv
  obtain ⟨rfl, hsz, hP, hK, hD0, hN, hZ⟩ := hv
  have hx := B.exec
  have hb := B.bytes
  have hr := B.returns
  have hts := atoms_spec (ws := wp_X8_feed) B.pre
  have hown : s.vm.findClass RX8 = some m.cls := findClass_of_methodNamed B.named
  have hlocks := B.notSynchronized
  have iRX8 : ∀ w ∈ u_ws RX8 TX8 12, w ∈ wp_X8_feed := by decide +kernel
  subst hsz
  have hD := hD0.self (sz := s.heap.size)
  generalize hAe : va_A [(h0, .inr (10, [.ref t0, .ref r0, .ref m0, .ref x0, v4, v5, v6, v7, v8, .int 0, .int ((-1)), .int 0])), (t0, .inr (7, [.ref tb, .int 0])), (tb, .inl (cT, 400, .inl (fun _ => 0)))] s.heap.size = A at hD hZ ⊢
  have hA : ∀ q : Nat, s.heap.size ≤ q → A q := fun q h => by rw [← hAe]; exact Or.inr h
  have hS : va_S A s.heap s.heap [] := va_S.rf
  have hP : va_P (dC, dI) vwCl [(h0, .inr (10, [.ref t0, .ref r0, .ref m0, .ref x0, v4, v5, v6, v7, v8, .int 0, .int ((-1)), .int 0])), (t0, .inr (7, [.ref tb, .int 0])), (tb, .inl (cT, 400, .inl (fun _ => 0)))] s.heap := hP
  have hl := lv_entry ([.ref h0, .int p0, .int p1, .int p2, .int p3, .int p4]) (n := 6) (Nat.le_of_ble_eq_true rfl)
  rw [lg_entry_eq]
  generalize (lg_sl ([.ref h0, .int p0, .int p1, .int p2, .int p3, .int p4]) ++ List.replicate (6 - (lg_sl ([.ref h0, .int p0, .int p1, .int p2, .int p3, .int p4])).length) Slot.unset).toArray = ls at hl ⊢
  have hl : lv_has ls 6 [(0, .ref h0), (1, .int p0), (2, .int p1), (3, .int p2), (4, .int p3), (5, .int p4)] := hl
  refine lv_aload_n hx hb dX8_feed_0 rfl (lv_at hl 0 rfl) ?_
  refine va_get (D := (dC, dI)) (ci := 10) (v := .ref t0) (C := RX8) (T := TX8) (N := 12) hx hb hts iRX8 hown hK hP 0 rfl rfl 0 (by decide) (hts (.fieldLink RX8 14 "RecordBench" "tape" "LRecordBench$Row;") (by decide +kernel)) (fun _ h9 => h9) rfl dX8_feed_1 ?_
  have hFc := va_free (wc := [(t0, .inr (7, [.ref tb, .int 0]))]) hD hS hA [1] rfl
  refine va_calli (va_runV (As := []) (rest := []) ⟨hx, hb, hml, hown, hts⟩ (c_X5_size l dC dI t0 tb 0 s.heap.size) (cwV 0 hts gp_X8_feed_X5_size_76 rfl rfl rfl (by decide +kernel) ⟨Nat.le_of_ble_eq_true rfl, Nat.le_of_ble_eq_true rfl⟩) ⟨Pr.blind _, va_recv hK hP (ci := 7) (q0 := 1) rfl rfl, fun U hU hW => ⟨rfl, Pr.at (hP.sub (ws' := [(t0, .inr (7, [.ref tb, .int 0]))]) [1] rfl) (hK.sub (tys' := []) [] rfl) (hD.sub (ws' := [(t0, .inr (7, [.ref tb, .int 0]))]) [1] (by decide) rfl) hN hZ hS hFc hU hW⟩⟩ rfl rfl hl.1 rfl (lv_room (Nat.le_of_ble_eq_true rfl)) dX8_feed_4 ⟨Nat.le_of_ble_eq_true rfl, Nat.le_of_ble_eq_true rfl⟩) hS (fun q _ h => hFc q h) hFc (fun r_1 u t H1 locs ht hvm hw_2 hB hz1 hk1 hS => ?_)
  obtain ⟨hP, hD, hK⟩ := Bq.join (wr := [(h0, .inr (10, [.ref t0, .ref r0, .ref m0, .ref x0, v4, v5, v6, v7, v8, .int 0, .int ((-1)), .int 0])), (tb, .inl (cT, 400, .inl (fun _ => 0)))]) hB ht hvm hP hD [1] [0, 2] rfl rfl (by decide) (by decide) hk1 hFc hK
  generalize H1 = H at hP hS ⊢
  have hP : va_P (dC, dI) vwCl [(h0, .inr (10, [.ref t0, .ref r0, .ref m0, .ref x0, v4, v5, v6, v7, v8, .int 0, .int ((-1)), .int 0])), (tb, .inl (cT, 400, .inl (fun _ => 0))), (t0, .inr (7, [.ref tb, .int 0]))] H := hP
  have hD : va_D A [(h0, .inr (10, [.ref t0, .ref r0, .ref m0, .ref x0, v4, v5, v6, v7, v8, .int 0, .int ((-1)), .int 0])), (tb, .inl (cT, 400, .inl (fun _ => 0))), (t0, .inr (7, [.ref tb, .int 0]))] := hD
  have hK : va_K (dC, dI) vwCl [(cT, .int)] s := hK
  try dsimp only at hw_2
  have k_3 := hw_2
  refine W_toi (y := 0) k_3 ?_
  refine lv_bipush (v := 20) hx hb dX8_feed_7 (by decide) ?_
  refine lv_iadd hx hb dX8_feed_9 ?_
  refine W_toi (y := 20) (by decide) ?_
  refine lv_sipush (v := 400) hx hb dX8_feed_10 (by decide) ?_
  refine lv_icmp_le (tgt := 18) hx hb dX8_feed_13 (by decide) (fun c_4 => ?_) (fun c_4 => absurd (by decide) c_4)
  refine lv_aload_n hx hb dX8_feed_18 rfl (lv_at hl 0 rfl) ?_
  refine va_get (D := (dC, dI)) (ci := 10) (v := .ref t0) (C := RX8) (T := TX8) (N := 12) hx hb hts iRX8 hown hK hP 0 rfl rfl 0 (by decide) (hts (.fieldLink RX8 14 "RecordBench" "tape" "LRecordBench$Row;") (by decide +kernel)) (fun _ h9 => h9) rfl dX8_feed_19 ?_
  refine lv_iload_n hx hb dX8_feed_22 rfl (lv_at hl 1 rfl) ?_
  have hFc := va_free (wc := [(t0, .inr (7, [.ref tb, .int 0])), (tb, .inl (cT, 400, .inl (fun _ => 0)))]) hD hS hA [2, 1] rfl
  refine va_callv (va_runV (As := [.int p0]) (rest := []) ⟨hx, hb, hml, hown, hts⟩ (c_X5_pushWord l dC dI t0 tb 0 cT (fun _ => 0) p0 (by decide) H.size) (cwV 1 hts gp_X8_feed_X5_pushWord_80 rfl rfl rfl (by decide +kernel) ⟨Nat.le_of_ble_eq_true rfl, Nat.le_of_ble_eq_true rfl⟩) ⟨Pr.blind _, va_recv hK hP (ci := 7) (q0 := 2) rfl rfl, fun U hU hW => ⟨rfl, Pr.at (hP.sub (ws' := [(t0, .inr (7, [.ref tb, .int 0])), (tb, .inl (cT, 400, .inl (fun _ => 0)))]) [2, 1] rfl) (hK.sub (tys' := [(cT, .int)]) [0] rfl) (hD.sub (ws' := [(t0, .inr (7, [.ref tb, .int 0])), (tb, .inl (cT, 400, .inl (fun _ => 0)))]) [2, 1] (by decide) rfl) hN hZ hS hFc hU hW⟩⟩ rfl rfl hl.1 rfl (lv_room (Nat.le_of_ble_eq_true rfl)) dX8_feed_23 ⟨Nat.le_of_ble_eq_true rfl, Nat.le_of_ble_eq_true rfl⟩) hS (fun q _ h => hFc q h) hFc (fun u t H1 locs ht hvm hw_6 hB hz1 hk1 hS => ?_)
  obtain ⟨f1_7, rfl⟩ : ∃ z, z = u := ⟨_, rfl⟩
  obtain ⟨hP, hD, hK⟩ := Bq.join (wr := [(h0, .inr (10, [.ref t0, .ref r0, .ref m0, .ref x0, v4, v5, v6, v7, v8, .int 0, .int ((-1)), .int 0]))]) hB ht hvm hP hD [2, 1] [0] rfl rfl (by decide) (by decide) hk1 hFc hK
  generalize H1 = H at hP hS ⊢
  have hP : va_P (dC, dI) vwCl [(h0, .inr (10, [.ref t0, .ref r0, .ref m0, .ref x0, v4, v5, v6, v7, v8, .int 0, .int ((-1)), .int 0])), (t0, .inr (7, [.ref tb, .int (nI (0 + 4))])), (tb, .inl (cT, 400, .inl f1_7))] H := hP
  have hD : va_D A [(h0, .inr (10, [.ref t0, .ref r0, .ref m0, .ref x0, v4, v5, v6, v7, v8, .int 0, .int ((-1)), .int 0])), (t0, .inr (7, [.ref tb, .int (nI (0 + 4))])), (tb, .inl (cT, 400, .inl f1_7))] := hD
  have hK : va_K (dC, dI) vwCl [(cT, .int)] s := hK
  refine lv_aload_n hx hb dX8_feed_26 rfl (lv_at hl 0 rfl) ?_
  refine va_get (D := (dC, dI)) (ci := 10) (v := .ref t0) (C := RX8) (T := TX8) (N := 12) hx hb hts iRX8 hown hK hP 0 rfl rfl 0 (by decide) (hts (.fieldLink RX8 14 "RecordBench" "tape" "LRecordBench$Row;") (by decide +kernel)) (fun _ h9 => h9) rfl dX8_feed_27 ?_
  refine lv_iload_n hx hb dX8_feed_30 rfl (lv_at hl 2 rfl) ?_
  have hFc := va_free (wc := [(t0, .inr (7, [.ref tb, .int (nI (0 + 4))])), (tb, .inl (cT, 400, .inl f1_7))]) hD hS hA [1, 2] rfl
  refine va_callv (va_runV (As := [.int p1]) (rest := []) ⟨hx, hb, hml, hown, hts⟩ (c_X5_pushWord l dC dI t0 tb (0 + 4) cT f1_7 p1 (by decide) H.size) (cwV 1 hts gp_X8_feed_X5_pushWord_80 rfl rfl rfl (by decide +kernel) ⟨Nat.le_of_ble_eq_true rfl, Nat.le_of_ble_eq_true rfl⟩) ⟨Pr.blind _, va_recv hK hP (ci := 7) (q0 := 1) rfl rfl, fun U hU hW => ⟨rfl, Pr.at (hP.sub (ws' := [(t0, .inr (7, [.ref tb, .int (nI (0 + 4))])), (tb, .inl (cT, 400, .inl f1_7))]) [1, 2] rfl) (hK.sub (tys' := [(cT, .int)]) [0] rfl) (hD.sub (ws' := [(t0, .inr (7, [.ref tb, .int (nI (0 + 4))])), (tb, .inl (cT, 400, .inl f1_7))]) [1, 2] (by decide) rfl) hN hZ hS hFc hU hW⟩⟩ rfl rfl hl.1 rfl (lv_room (Nat.le_of_ble_eq_true rfl)) dX8_feed_31 ⟨Nat.le_of_ble_eq_true rfl, Nat.le_of_ble_eq_true rfl⟩) hS (fun q _ h => hFc q h) hFc (fun u t H1 locs ht hvm hw_9 hB hz1 hk1 hS => ?_)
  obtain ⟨f1_10, rfl⟩ : ∃ z, z = u := ⟨_, rfl⟩
  obtain ⟨hP, hD, hK⟩ := Bq.join (wr := [(h0, .inr (10, [.ref t0, .ref r0, .ref m0, .ref x0, v4, v5, v6, v7, v8, .int 0, .int ((-1)), .int 0]))]) hB ht hvm hP hD [1, 2] [0] rfl rfl (by decide) (by decide) hk1 hFc hK
  generalize H1 = H at hP hS ⊢
  have hP : va_P (dC, dI) vwCl [(h0, .inr (10, [.ref t0, .ref r0, .ref m0, .ref x0, v4, v5, v6, v7, v8, .int 0, .int ((-1)), .int 0])), (t0, .inr (7, [.ref tb, .int (nI ((0 + 4) + 4))])), (tb, .inl (cT, 400, .inl f1_10))] H := hP
  have hD : va_D A [(h0, .inr (10, [.ref t0, .ref r0, .ref m0, .ref x0, v4, v5, v6, v7, v8, .int 0, .int ((-1)), .int 0])), (t0, .inr (7, [.ref tb, .int (nI ((0 + 4) + 4))])), (tb, .inl (cT, 400, .inl f1_10))] := hD
  have hK : va_K (dC, dI) vwCl [(cT, .int)] s := hK
  refine lv_aload_n hx hb dX8_feed_34 rfl (lv_at hl 0 rfl) ?_
  refine va_get (D := (dC, dI)) (ci := 10) (v := .ref t0) (C := RX8) (T := TX8) (N := 12) hx hb hts iRX8 hown hK hP 0 rfl rfl 0 (by decide) (hts (.fieldLink RX8 14 "RecordBench" "tape" "LRecordBench$Row;") (by decide +kernel)) (fun _ h9 => h9) rfl dX8_feed_35 ?_
  refine lv_iload_n hx hb dX8_feed_38 rfl (lv_at hl 3 rfl) ?_
  have hFc := va_free (wc := [(t0, .inr (7, [.ref tb, .int (nI ((0 + 4) + 4))])), (tb, .inl (cT, 400, .inl f1_10))]) hD hS hA [1, 2] rfl
  refine va_callv (va_runV (As := [.int p2]) (rest := []) ⟨hx, hb, hml, hown, hts⟩ (c_X5_pushWord l dC dI t0 tb ((0 + 4) + 4) cT f1_10 p2 (by decide) H.size) (cwV 1 hts gp_X8_feed_X5_pushWord_80 rfl rfl rfl (by decide +kernel) ⟨Nat.le_of_ble_eq_true rfl, Nat.le_of_ble_eq_true rfl⟩) ⟨Pr.blind _, va_recv hK hP (ci := 7) (q0 := 1) rfl rfl, fun U hU hW => ⟨rfl, Pr.at (hP.sub (ws' := [(t0, .inr (7, [.ref tb, .int (nI ((0 + 4) + 4))])), (tb, .inl (cT, 400, .inl f1_10))]) [1, 2] rfl) (hK.sub (tys' := [(cT, .int)]) [0] rfl) (hD.sub (ws' := [(t0, .inr (7, [.ref tb, .int (nI ((0 + 4) + 4))])), (tb, .inl (cT, 400, .inl f1_10))]) [1, 2] (by decide) rfl) hN hZ hS hFc hU hW⟩⟩ rfl rfl hl.1 rfl (lv_room (Nat.le_of_ble_eq_true rfl)) dX8_feed_39 ⟨Nat.le_of_ble_eq_true rfl, Nat.le_of_ble_eq_true rfl⟩) hS (fun q _ h => hFc q h) hFc (fun u t H1 locs ht hvm hw_12 hB hz1 hk1 hS => ?_)
  obtain ⟨f1_13, rfl⟩ : ∃ z, z = u := ⟨_, rfl⟩
  obtain ⟨hP, hD, hK⟩ := Bq.join (wr := [(h0, .inr (10, [.ref t0, .ref r0, .ref m0, .ref x0, v4, v5, v6, v7, v8, .int 0, .int ((-1)), .int 0]))]) hB ht hvm hP hD [1, 2] [0] rfl rfl (by decide) (by decide) hk1 hFc hK
  generalize H1 = H at hP hS ⊢
  have hP : va_P (dC, dI) vwCl [(h0, .inr (10, [.ref t0, .ref r0, .ref m0, .ref x0, v4, v5, v6, v7, v8, .int 0, .int ((-1)), .int 0])), (t0, .inr (7, [.ref tb, .int (nI (((0 + 4) + 4) + 4))])), (tb, .inl (cT, 400, .inl f1_13))] H := hP
  have hD : va_D A [(h0, .inr (10, [.ref t0, .ref r0, .ref m0, .ref x0, v4, v5, v6, v7, v8, .int 0, .int ((-1)), .int 0])), (t0, .inr (7, [.ref tb, .int (nI (((0 + 4) + 4) + 4))])), (tb, .inl (cT, 400, .inl f1_13))] := hD
  have hK : va_K (dC, dI) vwCl [(cT, .int)] s := hK
  refine lv_aload_n hx hb dX8_feed_42 rfl (lv_at hl 0 rfl) ?_
  refine va_get (D := (dC, dI)) (ci := 10) (v := .ref t0) (C := RX8) (T := TX8) (N := 12) hx hb hts iRX8 hown hK hP 0 rfl rfl 0 (by decide) (hts (.fieldLink RX8 14 "RecordBench" "tape" "LRecordBench$Row;") (by decide +kernel)) (fun _ h9 => h9) rfl dX8_feed_43 ?_
  refine lv_iload hx hb dX8_feed_46 (lv_at hl 4 rfl) ?_
  have hFc := va_free (wc := [(t0, .inr (7, [.ref tb, .int (nI (((0 + 4) + 4) + 4))])), (tb, .inl (cT, 400, .inl f1_13))]) hD hS hA [1, 2] rfl
  refine va_callv (va_runV (As := [.int p3]) (rest := []) ⟨hx, hb, hml, hown, hts⟩ (c_X5_pushWord l dC dI t0 tb (((0 + 4) + 4) + 4) cT f1_13 p3 (by decide) H.size) (cwV 1 hts gp_X8_feed_X5_pushWord_80 rfl rfl rfl (by decide +kernel) ⟨Nat.le_of_ble_eq_true rfl, Nat.le_of_ble_eq_true rfl⟩) ⟨Pr.blind _, va_recv hK hP (ci := 7) (q0 := 1) rfl rfl, fun U hU hW => ⟨rfl, Pr.at (hP.sub (ws' := [(t0, .inr (7, [.ref tb, .int (nI (((0 + 4) + 4) + 4))])), (tb, .inl (cT, 400, .inl f1_13))]) [1, 2] rfl) (hK.sub (tys' := [(cT, .int)]) [0] rfl) (hD.sub (ws' := [(t0, .inr (7, [.ref tb, .int (nI (((0 + 4) + 4) + 4))])), (tb, .inl (cT, 400, .inl f1_13))]) [1, 2] (by decide) rfl) hN hZ hS hFc hU hW⟩⟩ rfl rfl hl.1 rfl (lv_room (Nat.le_of_ble_eq_true rfl)) dX8_feed_48 ⟨Nat.le_of_ble_eq_true rfl, Nat.le_of_ble_eq_true rfl⟩) hS (fun q _ h => hFc q h) hFc (fun u t H1 locs ht hvm hw_15 hB hz1 hk1 hS => ?_)
  obtain ⟨f1_16, rfl⟩ : ∃ z, z = u := ⟨_, rfl⟩
  obtain ⟨hP, hD, hK⟩ := Bq.join (wr := [(h0, .inr (10, [.ref t0, .ref r0, .ref m0, .ref x0, v4, v5, v6, v7, v8, .int 0, .int ((-1)), .int 0]))]) hB ht hvm hP hD [1, 2] [0] rfl rfl (by decide) (by decide) hk1 hFc hK
  generalize H1 = H at hP hS ⊢
  have hP : va_P (dC, dI) vwCl [(h0, .inr (10, [.ref t0, .ref r0, .ref m0, .ref x0, v4, v5, v6, v7, v8, .int 0, .int ((-1)), .int 0])), (t0, .inr (7, [.ref tb, .int (nI ((((0 + 4) + 4) + 4) + 4))])), (tb, .inl (cT, 400, .inl f1_16))] H := hP
  have hD : va_D A [(h0, .inr (10, [.ref t0, .ref r0, .ref m0, .ref x0, v4, v5, v6, v7, v8, .int 0, .int ((-1)), .int 0])), (t0, .inr (7, [.ref tb, .int (nI ((((0 + 4) + 4) + 4) + 4))])), (tb, .inl (cT, 400, .inl f1_16))] := hD
  have hK : va_K (dC, dI) vwCl [(cT, .int)] s := hK
  refine lv_aload_n hx hb dX8_feed_51 rfl (lv_at hl 0 rfl) ?_
  refine va_get (D := (dC, dI)) (ci := 10) (v := .ref t0) (C := RX8) (T := TX8) (N := 12) hx hb hts iRX8 hown hK hP 0 rfl rfl 0 (by decide) (hts (.fieldLink RX8 14 "RecordBench" "tape" "LRecordBench$Row;") (by decide +kernel)) (fun _ h9 => h9) rfl dX8_feed_52 ?_
  refine lv_iload hx hb dX8_feed_55 (lv_at hl 5 rfl) ?_
  have hFc := va_free (wc := [(t0, .inr (7, [.ref tb, .int (nI ((((0 + 4) + 4) + 4) + 4))])), (tb, .inl (cT, 400, .inl f1_16))]) hD hS hA [1, 2] rfl
  refine va_callv (va_runV (As := [.int p4]) (rest := []) ⟨hx, hb, hml, hown, hts⟩ (c_X5_pushWord l dC dI t0 tb ((((0 + 4) + 4) + 4) + 4) cT f1_16 p4 (by decide) H.size) (cwV 1 hts gp_X8_feed_X5_pushWord_80 rfl rfl rfl (by decide +kernel) ⟨Nat.le_of_ble_eq_true rfl, Nat.le_of_ble_eq_true rfl⟩) ⟨Pr.blind _, va_recv hK hP (ci := 7) (q0 := 1) rfl rfl, fun U hU hW => ⟨rfl, Pr.at (hP.sub (ws' := [(t0, .inr (7, [.ref tb, .int (nI ((((0 + 4) + 4) + 4) + 4))])), (tb, .inl (cT, 400, .inl f1_16))]) [1, 2] rfl) (hK.sub (tys' := [(cT, .int)]) [0] rfl) (hD.sub (ws' := [(t0, .inr (7, [.ref tb, .int (nI ((((0 + 4) + 4) + 4) + 4))])), (tb, .inl (cT, 400, .inl f1_16))]) [1, 2] (by decide) rfl) hN hZ hS hFc hU hW⟩⟩ rfl rfl hl.1 rfl (lv_room (Nat.le_of_ble_eq_true rfl)) dX8_feed_57 ⟨Nat.le_of_ble_eq_true rfl, Nat.le_of_ble_eq_true rfl⟩) hS (fun q _ h => hFc q h) hFc (fun u t H1 locs ht hvm hw_18 hB hz1 hk1 hS => ?_)
  obtain ⟨f1_19, rfl⟩ : ∃ z, z = u := ⟨_, rfl⟩
  obtain ⟨hP, hD, hK⟩ := Bq.join (wr := [(h0, .inr (10, [.ref t0, .ref r0, .ref m0, .ref x0, v4, v5, v6, v7, v8, .int 0, .int ((-1)), .int 0]))]) hB ht hvm hP hD [1, 2] [0] rfl rfl (by decide) (by decide) hk1 hFc hK
  generalize H1 = H at hP hS ⊢
  have hP : va_P (dC, dI) vwCl [(h0, .inr (10, [.ref t0, .ref r0, .ref m0, .ref x0, v4, v5, v6, v7, v8, .int 0, .int ((-1)), .int 0])), (t0, .inr (7, [.ref tb, .int (nI (((((0 + 4) + 4) + 4) + 4) + 4))])), (tb, .inl (cT, 400, .inl f1_19))] H := hP
  have hD : va_D A [(h0, .inr (10, [.ref t0, .ref r0, .ref m0, .ref x0, v4, v5, v6, v7, v8, .int 0, .int ((-1)), .int 0])), (t0, .inr (7, [.ref tb, .int (nI (((((0 + 4) + 4) + 4) + 4) + 4))])), (tb, .inl (cT, 400, .inl f1_19))] := hD
  have hK : va_K (dC, dI) vwCl [(cT, .int)] s := hK
  refine lv_aload_n hx hb dX8_feed_60 rfl (lv_at hl 0 rfl) ?_
  refine va_get (D := (dC, dI)) (ci := 10) (v := .ref t0) (C := RX8) (T := TX8) (N := 12) hx hb hts iRX8 hown hK hP 0 rfl rfl 0 (by decide) (hts (.fieldLink RX8 14 "RecordBench" "tape" "LRecordBench$Row;") (by decide +kernel)) (fun _ h9 => h9) rfl dX8_feed_61 ?_
  have hFc := va_free (wc := [(t0, .inr (7, [.ref tb, .int (nI (((((0 + 4) + 4) + 4) + 4) + 4))]))]) hD hS hA [1] rfl
  refine va_calli (va_runV (As := []) (rest := []) ⟨hx, hb, hml, hown, hts⟩ (c_X5_size l dC dI t0 tb (nI (((((0 + 4) + 4) + 4) + 4) + 4)) H.size) (cwV 0 hts gp_X8_feed_X5_size_76 rfl rfl rfl (by decide +kernel) ⟨Nat.le_of_ble_eq_true rfl, Nat.le_of_ble_eq_true rfl⟩) ⟨Pr.blind _, va_recv hK hP (ci := 7) (q0 := 1) rfl rfl, fun U hU hW => ⟨rfl, Pr.at (hP.sub (ws' := [(t0, .inr (7, [.ref tb, .int (nI (((((0 + 4) + 4) + 4) + 4) + 4))]))]) [1] rfl) (hK.sub (tys' := []) [] rfl) (hD.sub (ws' := [(t0, .inr (7, [.ref tb, .int (nI (((((0 + 4) + 4) + 4) + 4) + 4))]))]) [1] (by decide) rfl) hN hZ hS hFc hU hW⟩⟩ rfl rfl hl.1 rfl (lv_room (Nat.le_of_ble_eq_true rfl)) dX8_feed_64 ⟨Nat.le_of_ble_eq_true rfl, Nat.le_of_ble_eq_true rfl⟩) hS (fun q _ h => hFc q h) hFc (fun r_20 u t H1 locs ht hvm hw_21 hB hz1 hk1 hS => ?_)
  obtain ⟨hP, hD, hK⟩ := Bq.join (wr := [(h0, .inr (10, [.ref t0, .ref r0, .ref m0, .ref x0, v4, v5, v6, v7, v8, .int 0, .int ((-1)), .int 0])), (tb, .inl (cT, 400, .inl f1_19))]) hB ht hvm hP hD [1] [0, 2] rfl rfl (by decide) (by decide) hk1 hFc hK
  generalize H1 = H at hP hS ⊢
  have hP : va_P (dC, dI) vwCl [(h0, .inr (10, [.ref t0, .ref r0, .ref m0, .ref x0, v4, v5, v6, v7, v8, .int 0, .int ((-1)), .int 0])), (tb, .inl (cT, 400, .inl f1_19)), (t0, .inr (7, [.ref tb, .int (nI (((((0 + 4) + 4) + 4) + 4) + 4))]))] H := hP
  have hD : va_D A [(h0, .inr (10, [.ref t0, .ref r0, .ref m0, .ref x0, v4, v5, v6, v7, v8, .int 0, .int ((-1)), .int 0])), (tb, .inl (cT, 400, .inl f1_19)), (t0, .inr (7, [.ref tb, .int (nI (((((0 + 4) + 4) + 4) + 4) + 4))]))] := hD
  have hK : va_K (dC, dI) vwCl [(cT, .int)] s := hK
  try dsimp only at hw_21
  have k_22 := hw_21
  refine W_toi (y := nI (((((0 + 4) + 4) + 4) + 4) + 4)) k_22 ?_
  have hP9 := hP.sub (ws' := []) [] rfl
  have hD9 := hD.sub (ws' := []) [] (by decide) rfl
  have hK9 := hK.sub (tys' := []) [] rfl
  exact W.iret (v := nI (((((0 + 4) + 4) + 4) + 4) + 4)) hx hb hr (fun t ht hW => ⟨⟨nI (((((0 + 4) + 4) + 4) + 4) + 4), (), rfl, (by decide), by rw [ht]; exact hP9, va_K.moved hW.alike hK9, hD9⟩, hS.F ht⟩) hS.2.2 dX8_feed_67
def wp_X8_end : List Cond := .code yX8_end cX8_end 2 (some .boolean) :: ([.fieldLink RX8 14 "RecordBench" "tape" "LRecordBench$Row;", .methodLink RX8 83 yX5_cut, .instanceMethod yX5_cut, .selects RX5 yX5_cut yX5_cut, .initialized RX5, .code yX5_cut cX5_cut 2 (some .boolean), .fieldLink RX5 21 "RecordBench$Row" "size" "I"] ++ wsX80 ++ wsX50)
set_option maxRecDepth 20000 in
theorem gp_X8_end_X5_cutA_83 : GoodIn wp_X8_end (wsV RX8 83 RX5 yX5_cut wp_X5_cutA) := goodIn_p _ [6] rfl (by decide +kernel)
set_option maxHeartbeats 4000000 in
set_option maxRecDepth 100000 in
theorem c_X8_end (l : Launch) (dC : Nat → ClassId) (dI : Nat → Nat → Nat) (h0 : Nat) (t0 : Nat) (r0 : Nat) (m0 : Nat) (x0 : Nat) (v4 : Value) (v5 : Value) (v6 : Value) (v7 : Value) (v8 : Value) (tb : Nat) (p0 : Int32) (sz : Nat) : Met l yX8_end wp_X8_end ({ frames := 1, cells := 0, slots := 0, locals := 25 }) (va_Pc [.ref h0, .int p0] (Pr (dC, dI) [] [(h0, .inr (10, [.ref t0, .ref r0, .ref m0, .ref x0, v4, v5, v6, v7, v8, .int 0, .int ((-1)), .int 0])), (t0, .inr (7, [.ref tb, .int 0]))] sz)) (va_Qi (fun r : Int32 => (fun _ : Unit => r = if p0 < 0 ∨ ¬ p0 ≤ 0 then 0 else 1)) (Bq (dC, dI) (fun _ : Unit => []) (fun _ : Unit => []) (va_A [(h0, .inr (10, [.ref t0, .ref r0, .ref m0, .ref x0, v4, v5, v6, v7, v8, .int 0, .int ((-1)), .int 0])), (t0, .inr (7, [.ref tb, .int 0]))] sz)) (va_A [(h0, .inr (10, [.ref t0, .ref r0, .ref m0, .ref x0, v4, v5, v6, v7, v8, .int 0, .int ((-1)), .int 0])), (t0, .inr (7, [.ref tb, .int 0]))] sz)) 0 0 (va_A [(h0, .inr (10, [.ref t0, .ref r0, .ref m0, .ref x0, v4, v5, v6, v7, v8, .int 0, .int ((-1)), .int 0])), (t0, .inr (7, [.ref tb, .int 0]))] sz) := by
  refine Met.ofW (cc := cX8_end) (maxL := 2) (ret := (some .boolean)) (by decide) rfl ?_
  intro p e s m args below meth c s₁ B hml hv
  obtain ⟨rfl, hsz, hP, hK, hD0, hN, hZ⟩ := hv
  have hx := B.exec
  have hb := B.bytes
  have hr := B.returns
  have hts := atoms_spec (ws := wp_X8_end) B.pre
  have hown : s.vm.findClass RX8 = some m.cls := findClass_of_methodNamed B.named
  have hlocks := B.notSynchronized
  have iRX8 : ∀ w ∈ u_ws RX8 TX8 12, w ∈ wp_X8_end := by decide +kernel
  subst hsz
  have hD := hD0.self (sz := s.heap.size)
  generalize hAe : va_A [(h0, .inr (10, [.ref t0, .ref r0, .ref m0, .ref x0, v4, v5, v6, v7, v8, .int 0, .int ((-1)), .int 0])), (t0, .inr (7, [.ref tb, .int 0]))] s.heap.size = A at hD hZ ⊢
  have hA : ∀ q : Nat, s.heap.size ≤ q → A q := fun q h => by rw [← hAe]; exact Or.inr h
  have hS : va_S A s.heap s.heap [] := va_S.rf
  have hP : va_P (dC, dI) vwCl [(h0, .inr (10, [.ref t0, .ref r0, .ref m0, .ref x0, v4, v5, v6, v7, v8, .int 0, .int ((-1)), .int 0])), (t0, .inr (7, [.ref tb, .int 0]))] s.heap := hP
  have hl := lv_entry ([.ref h0, .int p0]) (n := 2) (Nat.le_of_ble_eq_true rfl)
  rw [lg_entry_eq]
  generalize (lg_sl ([.ref h0, .int p0]) ++ List.replicate (2 - (lg_sl ([.ref h0, .int p0])).length) Slot.unset).toArray = ls at hl ⊢
  have hl : lv_has ls 2 [(0, .ref h0), (1, .int p0)] := hl
  refine lv_aload_n hx hb dX8_end_0 rfl (lv_at hl 0 rfl) ?_
  refine va_get (D := (dC, dI)) (ci := 10) (v := .ref t0) (C := RX8) (T := TX8) (N := 12) hx hb hts iRX8 hown hK hP 0 rfl rfl 0 (by decide) (hts (.fieldLink RX8 14 "RecordBench" "tape" "LRecordBench$Row;") (by decide +kernel)) (fun _ h9 => h9) rfl dX8_end_1 ?_
  refine lv_iload_n hx hb dX8_end_4 rfl (lv_at hl 1 rfl) ?_
  have hFc := va_free (wc := [(t0, .inr (7, [.ref tb, .int 0]))]) hD hS hA [1] rfl
  refine va_calli (va_runV (As := [.int p0]) (rest := []) ⟨hx, hb, hml, hown, hts⟩ (c_X5_cutA l dC dI t0 tb p0 s.heap.size) (cwV 1 hts gp_X8_end_X5_cutA_83 rfl rfl rfl (by decide +kernel) ⟨Nat.le_of_ble_eq_true rfl, Nat.le_of_ble_eq_true rfl⟩) ⟨Pr.blind _, va_recv hK hP (ci := 7) (q0 := 1) rfl rfl, fun U hU hW => ⟨rfl, Pr.at (hP.sub (ws' := [(t0, .inr (7, [.ref tb, .int 0]))]) [1] rfl) (hK.sub (tys' := []) [] rfl) (hD.sub (ws' := [(t0, .inr (7, [.ref tb, .int 0]))]) [1] (by decide) rfl) hN hZ hS hFc hU hW⟩⟩ rfl rfl hl.1 rfl (lv_room (Nat.le_of_ble_eq_true rfl)) dX8_end_5 ⟨Nat.le_of_ble_eq_true rfl, Nat.le_of_ble_eq_true rfl⟩) hS (fun q _ h => hFc q h) hFc (fun r_1 u t H1 locs ht hvm hw_2 hB hz1 hk1 hS => ?_)
  obtain ⟨hP, hD, hK⟩ := Bq.join (wr := [(h0, .inr (10, [.ref t0, .ref r0, .ref m0, .ref x0, v4, v5, v6, v7, v8, .int 0, .int ((-1)), .int 0]))]) hB ht hvm hP hD [1] [0] rfl rfl (by decide) (by decide) hk1 hFc hK
  generalize H1 = H at hP hS ⊢
  have hP : va_P (dC, dI) vwCl [(h0, .inr (10, [.ref t0, .ref r0, .ref m0, .ref x0, v4, v5, v6, v7, v8, .int 0, .int ((-1)), .int 0]))] H := hP
  have hD : va_D A [(h0, .inr (10, [.ref t0, .ref r0, .ref m0, .ref x0, v4, v5, v6, v7, v8, .int 0, .int ((-1)), .int 0]))] := hD
  have hK : va_K (dC, dI) vwCl [] s := hK
  try dsimp only at hw_2
  have k_3 := hw_2
  refine W_toi (y := if p0 < 0 ∨ ¬ p0 ≤ 0 then 0 else 1) k_3 ?_
  have hP9 := hP.sub (ws' := []) [] rfl
  have hD9 := hD.sub (ws' := []) [] (by decide) rfl
  have hK9 := hK.sub (tys' := []) [] rfl
  exact W.zret (v := if p0 < 0 ∨ ¬ p0 ≤ 0 then 0 else 1) hx hb hr (by split <;> rfl) (fun t ht hW => ⟨⟨if p0 < 0 ∨ ¬ p0 ≤ 0 then 0 else 1, (), rfl, rfl, by rw [ht]; exact hP9, va_K.moved hW.alike hK9, hD9⟩, hS.F ht⟩) hS.2.2 dX8_end_8
def wp_X8_fault : List Cond := .code yX8_fault cX8_fault 2 (some .int) :: ([.fieldLink RX8 70 "RecordBench" "latestPlace" "I", .fieldLink RX8 66 "RecordBench" "latestFault" "I"] ++ wsX80)
set_option maxHeartbeats 4000000 in
set_option maxRecDepth 100000 in
theorem c_X8_fault (l : Launch) (dC : Nat → ClassId) (dI : Nat → Nat → Nat) (h0 : Nat) (t0 : Nat) (r0 : Nat) (m0 : Nat) (x0 : Nat) (v4 : Value) (v5 : Value) (v6 : Value) (v7 : Value) (v8 : Value) (p0 : Int32) (sz : Nat) : Met l yX8_fault wp_X8_fault ({ frames := 0, cells := 0, slots := 0, locals := 0 }) (va_Pc [.ref h0, .int p0] (Pr (dC, dI) [] [(h0, .inr (10, [.ref t0, .ref r0, .ref m0, .ref x0, v4, v5, v6, v7, v8, .int 0, .int ((-1)), .int 0]))] sz)) (va_Qi (fun r : Int32 => (fun _ : Unit => r = if p0 = 0 then 0 else -1)) (Bq (dC, dI) (fun _ : Unit => []) (fun _ : Unit => []) (va_A [(h0, .inr (10, [.ref t0, .ref r0, .ref m0, .ref x0, v4, v5, v6, v7, v8, .int 0, .int ((-1)), .int 0]))] sz)) (va_A [(h0, .inr (10, [.ref t0, .ref r0, .ref m0, .ref x0, v4, v5, v6, v7, v8, .int 0, .int ((-1)), .int 0]))] sz)) 0 0 (va_A [(h0, .inr (10, [.ref t0, .ref r0, .ref m0, .ref x0, v4, v5, v6, v7, v8, .int 0, .int ((-1)), .int 0]))] sz) := by
  refine Met.ofW (cc := cX8_fault) (maxL := 2) (ret := (some .int)) (by decide) rfl ?_
  intro p e s m args below meth c s₁ B hml hv
  obtain ⟨rfl, hsz, hP, hK, hD0, hN, hZ⟩ := hv
  have hx := B.exec
  have hb := B.bytes
  have hr := B.returns
  have hts := atoms_spec (ws := wp_X8_fault) B.pre
  have hown : s.vm.findClass RX8 = some m.cls := findClass_of_methodNamed B.named
  have hlocks := B.notSynchronized
  have iRX8 : ∀ w ∈ u_ws RX8 TX8 12, w ∈ wp_X8_fault := by decide +kernel
  subst hsz
  have hD := hD0.self (sz := s.heap.size)
  generalize hAe : va_A [(h0, .inr (10, [.ref t0, .ref r0, .ref m0, .ref x0, v4, v5, v6, v7, v8, .int 0, .int ((-1)), .int 0]))] s.heap.size = A at hD hZ ⊢
  have hA : ∀ q : Nat, s.heap.size ≤ q → A q := fun q h => by rw [← hAe]; exact Or.inr h
  have hS : va_S A s.heap s.heap [] := va_S.rf
  have hP : va_P (dC, dI) vwCl [(h0, .inr (10, [.ref t0, .ref r0, .ref m0, .ref x0, v4, v5, v6, v7, v8, .int 0, .int ((-1)), .int 0]))] s.heap := hP
  have hl := lv_entry ([.ref h0, .int p0]) (n := 2) (Nat.le_of_ble_eq_true rfl)
  rw [lg_entry_eq]
  generalize (lg_sl ([.ref h0, .int p0]) ++ List.replicate (2 - (lg_sl ([.ref h0, .int p0])).length) Slot.unset).toArray = ls at hl ⊢
  have hl : lv_has ls 2 [(0, .ref h0), (1, .int p0)] := hl
  refine lv_iload_n hx hb dX8_fault_0 rfl (lv_at hl 1 rfl) ?_
  refine lv_if_ne (tgt := 9) hx hb dX8_fault_1 (by decide) (fun c_1 => ?_) (fun c_1 => ?_)
  · refine lv_iload_n hx hb dX8_fault_9 rfl (lv_at hl 1 rfl) ?_
    refine lv_iconst (v := 1) hx hb dX8_fault_10 (by decide) ?_
    refine lv_icmp_ne (tgt := 21) hx hb dX8_fault_11 (by decide) (fun c_2 => ?_) (fun c_2 => ?_)
    · refine lv_iconst (v := (-1)) hx hb dX8_fault_21 (by decide) ?_
      have hP9 := hP.sub (ws' := []) [] rfl
      have hD9 := hD.sub (ws' := []) [] (by decide) rfl
      have hK9 := hK.sub (tys' := []) [] rfl
      exact W.iret (v := (-1)) hx hb hr (fun t ht hW => ⟨⟨(-1), (), rfl, (if_neg c_1).symm, by rw [ht]; exact hP9, va_K.moved hW.alike hK9, hD9⟩, hS.F ht⟩) hS.2.2 dX8_fault_22
    · refine lv_aload_n hx hb dX8_fault_14 rfl (lv_at hl 0 rfl) ?_
      refine va_get (D := (dC, dI)) (ci := 10) (v := .int ((-1))) (C := RX8) (T := TX8) (N := 12) hx hb hts iRX8 hown hK hP 0 rfl rfl 10 (by decide) (hts (.fieldLink RX8 70 "RecordBench" "latestPlace" "I") (by decide +kernel)) (fun _ h9 => h9) rfl dX8_fault_15 ?_
      refine lv_goto (tgt := 22) hx hb dX8_fault_18 (by decide) ?_
      have hP9 := hP.sub (ws' := []) [] rfl
      have hD9 := hD.sub (ws' := []) [] (by decide) rfl
      have hK9 := hK.sub (tys' := []) [] rfl
      exact W.iret (v := (-1)) hx hb hr (fun t ht hW => ⟨⟨(-1), (), rfl, (if_neg c_1).symm, by rw [ht]; exact hP9, va_K.moved hW.alike hK9, hD9⟩, hS.F ht⟩) hS.2.2 dX8_fault_22
  · refine lv_aload_n hx hb dX8_fault_4 rfl (lv_at hl 0 rfl) ?_
    refine va_get (D := (dC, dI)) (ci := 10) (v := .int 0) (C := RX8) (T := TX8) (N := 12) hx hb hts iRX8 hown hK hP 0 rfl rfl 9 (by decide) (hts (.fieldLink RX8 66 "RecordBench" "latestFault" "I") (by decide +kernel)) (fun _ h9 => h9) rfl dX8_fault_5 ?_
    have hP9 := hP.sub (ws' := []) [] rfl
    have hD9 := hD.sub (ws' := []) [] (by decide) rfl
    have hK9 := hK.sub (tys' := []) [] rfl
    exact W.iret (v := 0) hx hb hr (fun t ht hW => ⟨⟨0, (), rfl, (if_pos c_1).symm, by rw [ht]; exact hP9, va_K.moved hW.alike hK9, hD9⟩, hS.F ht⟩) hS.2.2 dX8_fault_8
def wp_X8_by : List Cond := .code yX8_by cX8_by 1 (some .int) :: ([.fieldLink RX8 73 "RecordBench" "latestNumber" "I"] ++ wsX80)
set_option maxHeartbeats 4000000 in
set_option maxRecDepth 100000 in
theorem c_X8_by (l : Launch) (dC : Nat → ClassId) (dI : Nat → Nat → Nat) (h0 : Nat) (t0 : Nat) (r0 : Nat) (m0 : Nat) (x0 : Nat) (v4 : Value) (v5 : Value) (v6 : Value) (v7 : Value) (v8 : Value) (sz : Nat) : Met l yX8_by wp_X8_by ({ frames := 0, cells := 0, slots := 0, locals := 0 }) (va_Pc [.ref h0] (Pr (dC, dI) [] [(h0, .inr (10, [.ref t0, .ref r0, .ref m0, .ref x0, v4, v5, v6, v7, v8, .int 0, .int ((-1)), .int 0]))] sz)) (va_Qi (fun r : Int32 => (fun _ : Unit => r = 0)) (Bq (dC, dI) (fun _ : Unit => []) (fun _ : Unit => []) (va_A [(h0, .inr (10, [.ref t0, .ref r0, .ref m0, .ref x0, v4, v5, v6, v7, v8, .int 0, .int ((-1)), .int 0]))] sz)) (va_A [(h0, .inr (10, [.ref t0, .ref r0, .ref m0, .ref x0, v4, v5, v6, v7, v8, .int 0, .int ((-1)), .int 0]))] sz)) 0 0 (va_A [(h0, .inr (10, [.ref t0, .ref r0, .ref m0, .ref x0, v4, v5, v6, v7, v8, .int 0, .int ((-1)), .int 0]))] sz) := by
  refine Met.ofW (cc := cX8_by) (maxL := 1) (ret := (some .int)) (by decide) rfl ?_
  intro p e s m args below meth c s₁ B hml hv
  obtain ⟨rfl, hsz, hP, hK, hD0, hN, hZ⟩ := hv
  have hx := B.exec
  have hb := B.bytes
  have hr := B.returns
  have hts := atoms_spec (ws := wp_X8_by) B.pre
  have hown : s.vm.findClass RX8 = some m.cls := findClass_of_methodNamed B.named
  have hlocks := B.notSynchronized
  have iRX8 : ∀ w ∈ u_ws RX8 TX8 12, w ∈ wp_X8_by := by decide +kernel
  subst hsz
  have hD := hD0.self (sz := s.heap.size)
  generalize hAe : va_A [(h0, .inr (10, [.ref t0, .ref r0, .ref m0, .ref x0, v4, v5, v6, v7, v8, .int 0, .int ((-1)), .int 0]))] s.heap.size = A at hD hZ ⊢
  have hA : ∀ q : Nat, s.heap.size ≤ q → A q := fun q h => by rw [← hAe]; exact Or.inr h
  have hS : va_S A s.heap s.heap [] := va_S.rf
  have hP : va_P (dC, dI) vwCl [(h0, .inr (10, [.ref t0, .ref r0, .ref m0, .ref x0, v4, v5, v6, v7, v8, .int 0, .int ((-1)), .int 0]))] s.heap := hP
  have hl := lv_entry ([.ref h0]) (n := 1) (Nat.le_of_ble_eq_true rfl)
  rw [lg_entry_eq]
  generalize (lg_sl ([.ref h0]) ++ List.replicate (1 - (lg_sl ([.ref h0])).length) Slot.unset).toArray = ls at hl ⊢
  have hl : lv_has ls 1 [(0, .ref h0)] := hl
  refine lv_aload_n hx hb dX8_by_0 rfl (lv_at hl 0 rfl) ?_
  refine va_get (D := (dC, dI)) (ci := 10) (v := .int 0) (C := RX8) (T := TX8) (N := 12) hx hb hts iRX8 hown hK hP 0 rfl rfl 11 (by decide) (hts (.fieldLink RX8 73 "RecordBench" "latestNumber" "I") (by decide +kernel)) (fun _ h9 => h9) rfl dX8_by_1 ?_
  have hP9 := hP.sub (ws' := []) [] rfl
  have hD9 := hD.sub (ws' := []) [] (by decide) rfl
  have hK9 := hK.sub (tys' := []) [] rfl
  exact W.iret (v := 0) hx hb hr (fun t ht hW => ⟨⟨0, (), rfl, rfl, by rw [ht]; exact hP9, va_K.moved hW.alike hK9, hD9⟩, hS.F ht⟩) hS.2.2 dX8_by_4
def wp_X8_make : List Cond := .code yX8_make cX8_make 3 (some .int) :: ([.fieldLink RX8 24 "RecordBench" "makes" "[LRecordBench$Make;", .fieldLink RX8 33 "RecordBench" "texts" "LRecordBench$TextReader;", .methodLink RX8 87 yX6_tell, .instanceMethod yX6_tell, .selects RX6 yX6_tell yX6_tell, .initialized RX6, .fieldLink RX8 14 "RecordBench" "tape" "LRecordBench$Row;", .methodLink RX8 83 yX5_cut, .instanceMethod yX5_cut, .selects RX5 yX5_cut yX5_cut, .initialized RX5, .methodLink RX8 91 yX6_faultFound, .instanceMethod yX6_faultFound, .selects RX6 yX6_faultFound yX6_faultFound, .fieldLink RX8 66 "RecordBench" "latestFault" "I", .methodLink RX8 94 yX6_placeFound, .instanceMethod yX6_placeFound, .selects RX6 yX6_placeFound yX6_placeFound, .fieldLink RX8 70 "RecordBench" "latestPlace" "I", .methodLink RX8 97 yX1_count, .instanceMethod yX1_count, .selects RX1 yX1_count yX1_count, .initialized RX1, .code yX6_tell cX6_tell 4 (some (.object "RecordBench$Make")), .fieldLink RX6 26 "RecordBench$TextReader" "pos" "I", .fieldLink RX6 30 "RecordBench$TextReader" "fault" "I", .fieldLink RX6 33 "RecordBench$TextReader" "place" "I", .classLink RX6 36 RX1, .instantiable RX1 2, .instanceMethod yX1_init, .methodLink RX6 39 yX6_skipBlanks, .instanceMethod yX6_skipBlanks, .selects RX6 yX6_skipBlanks yX6_skipBlanks, .fieldLink RX6 9 "RecordBench$TextReader" "tape" "LRecordBench$Row;", .methodLink RX6 42 yX5_size, .instanceMethod yX5_size, .selects RX5 yX5_size yX5_size, .code yX1_init cX1_init 1 none, .methodLink RX1 3 objectInit, .instanceMethod objectInit, .code objectInit ⟨#[0xb1]⟩ 1 none, .classLink RX1 9 RX0, .fieldLink RX1 11 "RecordBench$Make" "fields" "[LRecordBench$Field;", .fieldLink RX1 17 "RecordBench$Make" "count" "I", .code yX6_skipBlanks cX6_skipBlanks 3 none, .code yX5_size cX5_size 1 (some .int), .fieldLink RX5 21 "RecordBench$Row" "size" "I", .code yX5_cut cX5_cut 2 (some .boolean), .code yX6_faultFound cX6_faultFound 1 (some .int), .code yX6_placeFound cX6_placeFound 1 (some .int), .code yX1_count cX1_count 1 (some .int)] ++ wsX80 ++ wsX60 ++ wsX10 ++ wsX50)
set_option maxRecDepth 20000 in
theorem gp_X8_make_X6_tell_87 : GoodIn wp_X8_make (wsV RX8 87 RX6 yX6_tell wp_X6_tell) := goodIn_p _ [24, 38, 41, 45, 46] rfl (by decide +kernel)
set_option maxRecDepth 20000 in
theorem gp_X8_make_X5_cut0_83 : GoodIn wp_X8_make (wsV RX8 83 RX5 yX5_cut wp_X5_cut0) := goodIn_p _ [48] rfl (by decide +kernel)
set_option maxRecDepth 20000 in
theorem gp_X8_make_X6_faultFound_91 : GoodIn wp_X8_make (wsV RX8 91 RX6 yX6_faultFound wp_X6_faultFound) := goodIn_p _ [49] rfl (by decide +kernel)
set_option maxRecDepth 20000 in
theorem gp_X8_make_X6_placeFound_94 : GoodIn wp_X8_make (wsV RX8 94 RX6 yX6_placeFound wp_X6_placeFound) := goodIn_p _ [50] rfl (by decide +kernel)
set_option maxRecDepth 20000 in
theorem gp_X8_make_X1_count_97 : GoodIn wp_X8_make (wsV RX8 97 RX1 yX1_count wp_X1_count) := goodIn_p _ [51] rfl (by decide +kernel)
set_option maxHeartbeats 4000000 in
set_option maxRecDepth 100000 in
theorem c_X8_make (l : Launch) (dC : Nat → ClassId) (dI : Nat → Nat → Nat) (h0 : Nat) (t0 : Nat) (r0 : Nat) (m0 : Nat) (x0 : Nat) (v4 : Value) (v5 : Value) (v6 : Value) (v7 : Value) (v8 : Value) (cM : ClassId) (tb : Nat) (sb : Nat) (p0 : Int32) (sz : Nat) : Met l yX8_make wp_X8_make ({ frames := 3, cells := 2, slots := 33, locals := 77 }) (va_Pc [.ref h0, .int p0] (Pr (dC, dI) [(cM, .object RX1)] [(h0, .inr (10, [.ref t0, .ref r0, .ref m0, .ref x0, v4, v5, v6, v7, v8, .int 0, .int ((-1)), .int 0])), (m0, .inl (cM, 8, .inr (.inr (.inr (.inr (fun _ => none)))))), (t0, .inr (7, [.ref tb, .int 0])), (x0, .inr (8, [.ref t0, .ref m0, .ref sb, .int 0, .int 0, .int ((-1))]))] sz)) (va_Qi (fun r : Int32 => (fun _ : Unit => r = if p0 < 0 ∨ 8 ≤ p0 then -2 else 0)) (Bq (dC, dI) (fun _ : Unit => []) (fun _ : Unit => []) (va_A [(h0, .inr (10, [.ref t0, .ref r0, .ref m0, .ref x0, v4, v5, v6, v7, v8, .int 0, .int ((-1)), .int 0])), (m0, .inl (cM, 8, .inr (.inr (.inr (.inr (fun _ => none)))))), (t0, .inr (7, [.ref tb, .int 0])), (x0, .inr (8, [.ref t0, .ref m0, .ref sb, .int 0, .int 0, .int ((-1))]))] sz)) (va_A [(h0, .inr (10, [.ref t0, .ref r0, .ref m0, .ref x0, v4, v5, v6, v7, v8, .int 0, .int ((-1)), .int 0])), (m0, .inl (cM, 8, .inr (.inr (.inr (.inr (fun _ => none)))))), (t0, .inr (7, [.ref tb, .int 0])), (x0, .inr (8, [.ref t0, .ref m0, .ref sb, .int 0, .int 0, .int ((-1))]))] sz)) 2 33 (va_A [(h0, .inr (10, [.ref t0, .ref r0, .ref m0, .ref x0, v4, v5, v6, v7, v8, .int 0, .int ((-1)), .int 0])), (m0, .inl (cM, 8, .inr (.inr (.inr (.inr (fun _ => none)))))), (t0, .inr (7, [.ref tb, .int 0])), (x0, .inr (8, [.ref t0, .ref m0, .ref sb, .int 0, .int 0, .int ((-1))]))] sz) := by
  refine Met.ofW (cc := cX8_make) (maxL := 3) (ret := (some .int)) (by decide) rfl ?_
  intro p e s m args below meth c s₁ B hml hv
  obtain ⟨rfl, hsz, hP, hK, hD0, hN, hZ⟩ := hv
  have hx := B.exec
  have hb := B.bytes
  have hr := B.returns
  have hts := atoms_spec (ws := wp_X8_make) B.pre
  have hown : s.vm.findClass RX8 = some m.cls := findClass_of_methodNamed B.named
  have hlocks := B.notSynchronized
  have iRX8 : ∀ w ∈ u_ws RX8 TX8 12, w ∈ wp_X8_make := by decide +kernel
  subst hsz
  have hD := hD0.self (sz := s.heap.size)
  generalize hAe : va_A [(h0, .inr (10, [.ref t0, .ref r0, .ref m0, .ref x0, v4, v5, v6, v7, v8, .int 0, .int ((-1)), .int 0])), (m0, .inl (cM, 8, .inr (.inr (.inr (.inr (fun _ => none)))))), (t0, .inr (7, [.ref tb, .int 0])), (x0, .inr (8, [.ref t0, .ref m0, .ref sb, .int 0, .int 0, .int ((-1))]))] s.heap.size = A at hD hZ ⊢
  have hA : ∀ q : Nat, s.heap.size ≤ q → A q := fun q h => by rw [← hAe]; exact Or.inr h
  have hS : va_S A s.heap s.heap [] := va_S.rf
  have hP : va_P (dC, dI) vwCl [(h0, .inr (10, [.ref t0, .ref r0, .ref m0, .ref x0, v4, v5, v6, v7, v8, .int 0, .int ((-1)), .int 0])), (m0, .inl (cM, 8, .inr (.inr (.inr (.inr (fun _ => none)))))), (t0, .inr (7, [.ref tb, .int 0])), (x0, .inr (8, [.ref t0, .ref m0, .ref sb, .int 0, .int 0, .int ((-1))]))] s.heap := hP
  have hl := lv_entry ([.ref h0, .int p0]) (n := 3) (Nat.le_of_ble_eq_true rfl)
  rw [lg_entry_eq]
  generalize (lg_sl ([.ref h0, .int p0]) ++ List.replicate (3 - (lg_sl ([.ref h0, .int p0])).length) Slot.unset).toArray = ls at hl ⊢
  have hl : lv_has ls 3 [(0, .ref h0), (1, .int p0)] := hl
  refine lv_iload_n hx hb dX8_make_0 rfl (lv_at hl 1 rfl) ?_
  refine lv_if_lt (tgt := 19) hx hb dX8_make_1 (by decide) (fun c_1 => ?_) (fun c_1 => ?_)
  · refine lv_bipush (v := (-2)) hx hb dX8_make_19 (by decide) ?_
    refine W.widen (k := 2) (n := 33) (by omega) (by omega) ?_
    have hP9 := hP.sub (ws' := []) [] rfl
    have hD9 := hD.sub (ws' := []) [] (by decide) rfl
    have hK9 := hK.sub (tys' := []) [] rfl
    exact W.iret (v := (-2)) hx hb hr (fun t ht hW => ⟨⟨(-2), (), rfl, (if_pos (Or.inl c_1)).symm, by rw [ht]; exact hP9, va_K.moved hW.alike hK9, hD9⟩, hS.F ht⟩) hS.2.2 dX8_make_21
  · refine lv_iload_n hx hb dX8_make_4 rfl (lv_at hl 1 rfl) ?_
    refine lv_bipush (v := 8) hx hb dX8_make_5 (by decide) ?_
    refine lv_icmp_ge (tgt := 19) hx hb dX8_make_7 (by decide) (fun c_2 => ?_) (fun c_2 => ?_)
    · refine lv_bipush (v := (-2)) hx hb dX8_make_19 (by decide) ?_
      refine W.widen (k := 2) (n := 33) (by omega) (by omega) ?_
      have hP9 := hP.sub (ws' := []) [] rfl
      have hD9 := hD.sub (ws' := []) [] (by decide) rfl
      have hK9 := hK.sub (tys' := []) [] rfl
      exact W.iret (v := (-2)) hx hb hr (fun t ht hW => ⟨⟨(-2), (), rfl, (if_pos (Or.inr c_2)).symm, by rw [ht]; exact hP9, va_K.moved hW.alike hK9, hD9⟩, hS.F ht⟩) hS.2.2 dX8_make_21
    · refine lv_aload_n hx hb dX8_make_10 rfl (lv_at hl 0 rfl) ?_
      refine va_get (D := (dC, dI)) (ci := 10) (v := .ref m0) (C := RX8) (T := TX8) (N := 12) hx hb hts iRX8 hown hK hP 0 rfl rfl 2 (by decide) (hts (.fieldLink RX8 24 "RecordBench" "makes" "[LRecordBench$Make;") (by decide +kernel)) (fun _ h9 => h9) rfl dX8_make_11 ?_
      refine lv_iload_n hx hb dX8_make_14 rfl (lv_at hl 1 rfl) ?_
      refine va_aldq hx hb hK hP 1 0 rfl rfl (in_of 8 rfl (by decide) c_1 c_2) dX8_make_15 ?_
      refine W.eq (g2 := F0 m 16 ls [.null]) rfl ?_
      refine lv_ifnullN (tgt := 22) hx hb dX8_make_16 (by decide) ?_
      refine lv_aload_n hx hb dX8_make_22 rfl (lv_at hl 0 rfl) ?_
      refine va_get (D := (dC, dI)) (ci := 10) (v := .ref x0) (C := RX8) (T := TX8) (N := 12) hx hb hts iRX8 hown hK hP 0 rfl rfl 3 (by decide) (hts (.fieldLink RX8 33 "RecordBench" "texts" "LRecordBench$TextReader;") (by decide +kernel)) (fun _ h9 => h9) rfl dX8_make_23 ?_
      refine lv_iload_n hx hb dX8_make_26 rfl (lv_at hl 1 rfl) ?_
      have hFc := va_free (wc := [(x0, .inr (8, [.ref t0, .ref m0, .ref sb, .int 0, .int 0, .int ((-1))])), (t0, .inr (7, [.ref tb, .int 0]))]) hD hS hA [3, 2] rfl
      refine va_callq (va_runV (As := [.int p0]) (rest := []) ⟨hx, hb, hml, hown, hts⟩ (c_X6_tell l dC dI x0 t0 m0 sb tb 0 0 (-1) p0 s.heap.size) (cwV 1 hts gp_X8_make_X6_tell_87 rfl rfl rfl (by decide +kernel) ⟨Nat.le_of_ble_eq_true rfl, Nat.le_of_ble_eq_true rfl⟩) ⟨Pr.blind _, va_recv hK hP (ci := 8) (q0 := 3) rfl rfl, fun U hU hW => ⟨rfl, Pr.at (hP.sub (ws' := [(x0, .inr (8, [.ref t0, .ref m0, .ref sb, .int 0, .int 0, .int ((-1))])), (t0, .inr (7, [.ref tb, .int 0]))]) [3, 2] rfl) (hK.sub (tys' := []) [] rfl) (hD.sub (ws' := [(x0, .inr (8, [.ref t0, .ref m0, .ref sb, .int 0, .int 0, .int ((-1))])), (t0, .inr (7, [.ref tb, .int 0]))]) [3, 2] (by decide) rfl) hN hZ hS hFc hU hW⟩⟩ rfl rfl hl.1 rfl (lv_room (Nat.le_of_ble_eq_true rfl)) dX8_make_27 ⟨Nat.le_of_ble_eq_true rfl, Nat.le_of_ble_eq_true rfl⟩) hS (fun q _ h => hFc q h) hFc (fun r_3 u t H1 locs ht hvm hw_4 hB hz1 hk1 hS => ?_)
      obtain ⟨a_5, q_6⟩ := u
      obtain ⟨hP, hD, hK⟩ := Bq.join (wr := [(h0, .inr (10, [.ref t0, .ref r0, .ref m0, .ref x0, v4, v5, v6, v7, v8, .int 0, .int ((-1)), .int 0])), (m0, .inl (cM, 8, .inr (.inr (.inr (.inr (fun _ => none))))))]) hB ht hvm hP hD [3, 2] [0, 1] rfl rfl (by decide) (by decide) hk1 hFc hK
      generalize H1 = H at hP hS ⊢
      have hP : va_P (dC, dI) vwCl [(h0, .inr (10, [.ref t0, .ref r0, .ref m0, .ref x0, v4, v5, v6, v7, v8, .int 0, .int ((-1)), .int 0])), (m0, .inl (cM, 8, .inr (.inr (.inr (.inr (fun _ => none)))))), (x0, .inr (8, [.ref t0, .ref m0, .ref sb, .int 0, .int 0, .int (-1)])), (t0, .inr (7, [.ref tb, .int 0])), (a_5, .inr (3, [.ref q_6, .int 0]))] H := hP
      have hD : va_D A [(h0, .inr (10, [.ref t0, .ref r0, .ref m0, .ref x0, v4, v5, v6, v7, v8, .int 0, .int ((-1)), .int 0])), (m0, .inl (cM, 8, .inr (.inr (.inr (.inr (fun _ => none)))))), (x0, .inr (8, [.ref t0, .ref m0, .ref sb, .int 0, .int 0, .int (-1)])), (t0, .inr (7, [.ref tb, .int 0])), (a_5, .inr (3, [.ref q_6, .int 0]))] := hD
      have hK : va_K (dC, dI) vwCl [(cM, .object RX1)] s := hK
      refine W.widen (k := 2) (n := 33) (by omega) (by omega) ?_
      try dsimp only at hw_4
      have k_7 := hw_4
      subst k_7
      refine W.eq (g2 := F0 m 30 ls [.ref a_5]) rfl ?_
      refine lv_astore_n (lv' := [(2, .ref a_5), (0, .ref h0), (1, .int p0)]) hx hb dX8_make_30 rfl hl (by decide) rfl (fun ls hl => ?_)
      refine lv_aload_n hx hb dX8_make_31 rfl (lv_at hl 1 rfl) ?_
      refine va_get (D := (dC, dI)) (ci := 10) (v := .ref t0) (C := RX8) (T := TX8) (N := 12) hx hb hts iRX8 hown hK hP 0 rfl rfl 0 (by decide) (hts (.fieldLink RX8 14 "RecordBench" "tape" "LRecordBench$Row;") (by decide +kernel)) (fun _ h9 => h9) rfl dX8_make_32 ?_
      refine lv_iconst (v := 0) hx hb dX8_make_35 (by decide) ?_
      have hFc := va_free (wc := [(t0, .inr (7, [.ref tb, .int 0]))]) hD hS hA [3] rfl
      refine va_calli (va_runV (As := [.int 0]) (rest := []) ⟨hx, hb, hml, hown, hts⟩ (c_X5_cut0 l dC dI t0 tb H.size) (cwV 1 hts gp_X8_make_X5_cut0_83 rfl rfl rfl (by decide +kernel) ⟨Nat.le_of_ble_eq_true rfl, Nat.le_of_ble_eq_true rfl⟩) ⟨Pr.blind _, va_recv hK hP (ci := 7) (q0 := 3) rfl rfl, fun U hU hW => ⟨rfl, Pr.at (hP.sub (ws' := [(t0, .inr (7, [.ref tb, .int 0]))]) [3] rfl) (hK.sub (tys' := []) [] rfl) (hD.sub (ws' := [(t0, .inr (7, [.ref tb, .int 0]))]) [3] (by decide) rfl) hN hZ hS hFc hU hW⟩⟩ rfl rfl hl.1 rfl (lv_room (Nat.le_of_ble_eq_true rfl)) dX8_make_36 ⟨Nat.le_of_ble_eq_true rfl, Nat.le_of_ble_eq_true rfl⟩) hS (fun q _ h => hFc q h) hFc (fun r_8 u t H1 locs ht hvm hw_9 hB hz1 hk1 hS => ?_)
      obtain ⟨hP, hD, hK⟩ := Bq.join (wr := [(h0, .inr (10, [.ref t0, .ref r0, .ref m0, .ref x0, v4, v5, v6, v7, v8, .int 0, .int ((-1)), .int 0])), (m0, .inl (cM, 8, .inr (.inr (.inr (.inr (fun _ => none)))))), (x0, .inr (8, [.ref t0, .ref m0, .ref sb, .int 0, .int 0, .int (-1)])), (a_5, .inr (3, [.ref q_6, .int 0]))]) hB ht hvm hP hD [3] [0, 1, 2, 4] rfl rfl (by decide) (by decide) hk1 hFc hK
      generalize H1 = H at hP hS ⊢
      have hP : va_P (dC, dI) vwCl [(h0, .inr (10, [.ref t0, .ref r0, .ref m0, .ref x0, v4, v5, v6, v7, v8, .int 0, .int ((-1)), .int 0])), (m0, .inl (cM, 8, .inr (.inr (.inr (.inr (fun _ => none)))))), (x0, .inr (8, [.ref t0, .ref m0, .ref sb, .int 0, .int 0, .int (-1)])), (a_5, .inr (3, [.ref q_6, .int 0])), (t0, .inr (7, [.ref tb, .int 0]))] H := hP
      have hD : va_D A [(h0, .inr (10, [.ref t0, .ref r0, .ref m0, .ref x0, v4, v5, v6, v7, v8, .int 0, .int ((-1)), .int 0])), (m0, .inl (cM, 8, .inr (.inr (.inr (.inr (fun _ => none)))))), (x0, .inr (8, [.ref t0, .ref m0, .ref sb, .int 0, .int 0, .int (-1)])), (a_5, .inr (3, [.ref q_6, .int 0])), (t0, .inr (7, [.ref tb, .int 0]))] := hD
      have hK : va_K (dC, dI) vwCl [(cM, .object RX1)] s := hK
      try dsimp only at hw_9
      have k_10 := hw_9
      refine W_toi (y := 1) k_10 ?_
      refine lv_pop hx hb dX8_make_39 rfl ?_
      refine lv_aload_n hx hb dX8_make_40 rfl (lv_at hl 1 rfl) ?_
      refine lv_aload_n hx hb dX8_make_41 rfl (lv_at hl 1 rfl) ?_
      refine va_get (D := (dC, dI)) (ci := 10) (v := .ref x0) (C := RX8) (T := TX8) (N := 12) hx hb hts iRX8 hown hK hP 0 rfl rfl 3 (by decide) (hts (.fieldLink RX8 33 "RecordBench" "texts" "LRecordBench$TextReader;") (by decide +kernel)) (fun _ h9 => h9) rfl dX8_make_42 ?_
      have hFc := va_free (wc := [(x0, .inr (8, [.ref t0, .ref m0, .ref sb, .int 0, .int 0, .int (-1)]))]) hD hS hA [2] rfl
      refine va_calli (va_runV (As := []) (rest := [.ref h0]) ⟨hx, hb, hml, hown, hts⟩ (c_X6_faultFound l dC dI x0 t0 m0 sb 0 0 (-1) H.size) (cwV 0 hts gp_X8_make_X6_faultFound_91 rfl rfl rfl (by decide +kernel) ⟨Nat.le_of_ble_eq_true rfl, Nat.le_of_ble_eq_true rfl⟩) ⟨Pr.blind _, va_recv hK hP (ci := 8) (q0 := 2) rfl rfl, fun U hU hW => ⟨rfl, Pr.at (hP.sub (ws' := [(x0, .inr (8, [.ref t0, .ref m0, .ref sb, .int 0, .int 0, .int (-1)]))]) [2] rfl) (hK.sub (tys' := []) [] rfl) (hD.sub (ws' := [(x0, .inr (8, [.ref t0, .ref m0, .ref sb, .int 0, .int 0, .int (-1)]))]) [2] (by decide) rfl) hN hZ hS hFc hU hW⟩⟩ rfl rfl hl.1 rfl (lv_room (Nat.le_of_ble_eq_true rfl)) dX8_make_45 ⟨Nat.le_of_ble_eq_true rfl, Nat.le_of_ble_eq_true rfl⟩) hS (fun q _ h => hFc q h) hFc (fun r_11 u t H1 locs ht hvm hw_12 hB hz1 hk1 hS => ?_)
      obtain ⟨hP, hD, hK⟩ := Bq.join (wr := [(h0, .inr (10, [.ref t0, .ref r0, .ref m0, .ref x0, v4, v5, v6, v7, v8, .int 0, .int ((-1)), .int 0])), (m0, .inl (cM, 8, .inr (.inr (.inr (.inr (fun _ => none)))))), (a_5, .inr (3, [.ref q_6, .int 0])), (t0, .inr (7, [.ref tb, .int 0]))]) hB ht hvm hP hD [2] [0, 1, 3, 4] rfl rfl (by decide) (by decide) hk1 hFc hK
      generalize H1 = H at hP hS ⊢
      have hP : va_P (dC, dI) vwCl [(h0, .inr (10, [.ref t0, .ref r0, .ref m0, .ref x0, v4, v5, v6, v7, v8, .int 0, .int ((-1)), .int 0])), (m0, .inl (cM, 8, .inr (.inr (.inr (.inr (fun _ => none)))))), (a_5, .inr (3, [.ref q_6, .int 0])), (t0, .inr (7, [.ref tb, .int 0])), (x0, .inr (8, [.ref t0, .ref m0, .ref sb, .int 0, .int 0, .int (-1)]))] H := hP
      have hD : va_D A [(h0, .inr (10, [.ref t0, .ref r0, .ref m0, .ref x0, v4, v5, v6, v7, v8, .int 0, .int ((-1)), .int 0])), (m0, .inl (cM, 8, .inr (.inr (.inr (.inr (fun _ => none)))))), (a_5, .inr (3, [.ref q_6, .int 0])), (t0, .inr (7, [.ref tb, .int 0])), (x0, .inr (8, [.ref t0, .ref m0, .ref sb, .int 0, .int 0, .int (-1)]))] := hD
      have hK : va_K (dC, dI) vwCl [(cM, .object RX1)] s := hK
      try dsimp only at hw_12
      have k_13 := hw_12
      refine W_toi (y := 0) k_13 ?_
      refine va_put (D := (dC, dI)) (ci := 10) (v := .int 0) (ty := .int) (C := RX8) (T := TX8) (N := 12) hx hb hts iRX8 tyX8 tyX8_ok nmX8 hown hK hP hD hS 0 rfl rfl 9 (by decide) (hts (.fieldLink RX8 66 "RecordBench" "latestFault" "I") (by decide +kernel)) (fun _ h9 => h9) rfl (by decide +kernel) rfl rfl (Nat.le_of_ble_eq_true rfl) dX8_make_48 (fun H locs hP hD hS => ?_)
      have hP : va_P (dC, dI) vwCl [(h0, .inr (10, [.ref t0, .ref r0, .ref m0, .ref x0, v4, v5, v6, v7, v8, .int 0, .int ((-1)), .int 0])), (m0, .inl (cM, 8, .inr (.inr (.inr (.inr (fun _ => none)))))), (a_5, .inr (3, [.ref q_6, .int 0])), (t0, .inr (7, [.ref tb, .int 0])), (x0, .inr (8, [.ref t0, .ref m0, .ref sb, .int 0, .int 0, .int (-1)]))] H := hP
      have hD : va_D A [(h0, .inr (10, [.ref t0, .ref r0, .ref m0, .ref x0, v4, v5, v6, v7, v8, .int 0, .int ((-1)), .int 0])), (m0, .inl (cM, 8, .inr (.inr (.inr (.inr (fun _ => none)))))), (a_5, .inr (3, [.ref q_6, .int 0])), (t0, .inr (7, [.ref tb, .int 0])), (x0, .inr (8, [.ref t0, .ref m0, .ref sb, .int 0, .int 0, .int (-1)]))] := hD
      refine lv_aload_n hx hb dX8_make_51 rfl (lv_at hl 1 rfl) ?_
      refine lv_aload_n hx hb dX8_make_52 rfl (lv_at hl 1 rfl) ?_
      refine va_get (D := (dC, dI)) (ci := 10) (v := .ref x0) (C := RX8) (T := TX8) (N := 12) hx hb hts iRX8 hown hK hP 0 rfl rfl 3 (by decide) (hts (.fieldLink RX8 33 "RecordBench" "texts" "LRecordBench$TextReader;") (by decide +kernel)) (fun _ h9 => h9) rfl dX8_make_53 ?_
      have hFc := va_free (wc := [(x0, .inr (8, [.ref t0, .ref m0, .ref sb, .int 0, .int 0, .int (-1)]))]) hD hS hA [4] rfl
      refine va_calli (va_runV (As := []) (rest := [.ref h0]) ⟨hx, hb, hml, hown, hts⟩ (c_X6_placeFound l dC dI x0 t0 m0 sb 0 0 (-1) H.size) (cwV 0 hts gp_X8_make_X6_placeFound_94 rfl rfl rfl (by decide +kernel) ⟨Nat.le_of_ble_eq_true rfl, Nat.le_of_ble_eq_true rfl⟩) ⟨Pr.blind _, va_recv hK hP (ci := 8) (q0 := 4) rfl rfl, fun U hU hW => ⟨rfl, Pr.at (hP.sub (ws' := [(x0, .inr (8, [.ref t0, .ref m0, .ref sb, .int 0, .int 0, .int (-1)]))]) [4] rfl) (hK.sub (tys' := []) [] rfl) (hD.sub (ws' := [(x0, .inr (8, [.ref t0, .ref m0, .ref sb, .int 0, .int 0, .int (-1)]))]) [4] (by decide) rfl) hN hZ hS hFc hU hW⟩⟩ rfl rfl hl.1 rfl (lv_room (Nat.le_of_ble_eq_true rfl)) dX8_make_56 ⟨Nat.le_of_ble_eq_true rfl, Nat.le_of_ble_eq_true rfl⟩) hS (fun q _ h => hFc q h) hFc (fun r_14 u t H1 locs ht hvm hw_15 hB hz1 hk1 hS => ?_)
      obtain ⟨hP, hD, hK⟩ := Bq.join (wr := [(h0, .inr (10, [.ref t0, .ref r0, .ref m0, .ref x0, v4, v5, v6, v7, v8, .int 0, .int ((-1)), .int 0])), (m0, .inl (cM, 8, .inr (.inr (.inr (.inr (fun _ => none)))))), (a_5, .inr (3, [.ref q_6, .int 0])), (t0, .inr (7, [.ref tb, .int 0]))]) hB ht hvm hP hD [4] [0, 1, 2, 3] rfl rfl (by decide) (by decide) hk1 hFc hK
      generalize H1 = H at hP hS ⊢
      have hP : va_P (dC, dI) vwCl [(h0, .inr (10, [.ref t0, .ref r0, .ref m0, .ref x0, v4, v5, v6, v7, v8, .int 0, .int ((-1)), .int 0])), (m0, .inl (cM, 8, .inr (.inr (.inr (.inr (fun _ => none)))))), (a_5, .inr (3, [.ref q_6, .int 0])), (t0, .inr (7, [.ref tb, .int 0])), (x0, .inr (8, [.ref t0, .ref m0, .ref sb, .int 0, .int 0, .int (-1)]))] H := hP
      have hD : va_D A [(h0, .inr (10, [.ref t0, .ref r0, .ref m0, .ref x0, v4, v5, v6, v7, v8, .int 0, .int ((-1)), .int 0])), (m0, .inl (cM, 8, .inr (.inr (.inr (.inr (fun _ => none)))))), (a_5, .inr (3, [.ref q_6, .int 0])), (t0, .inr (7, [.ref tb, .int 0])), (x0, .inr (8, [.ref t0, .ref m0, .ref sb, .int 0, .int 0, .int (-1)]))] := hD
      have hK : va_K (dC, dI) vwCl [(cM, .object RX1)] s := hK
      try dsimp only at hw_15
      have k_16 := hw_15
      refine W_toi (y := -1) k_16 ?_
      refine va_put (D := (dC, dI)) (ci := 10) (v := .int (-1)) (ty := .int) (C := RX8) (T := TX8) (N := 12) hx hb hts iRX8 tyX8 tyX8_ok nmX8 hown hK hP hD hS 0 rfl rfl 10 (by decide) (hts (.fieldLink RX8 70 "RecordBench" "latestPlace" "I") (by decide +kernel)) (fun _ h9 => h9) rfl (by decide +kernel) rfl rfl (Nat.le_of_ble_eq_true rfl) dX8_make_59 (fun H locs hP hD hS => ?_)
      have hP : va_P (dC, dI) vwCl [(h0, .inr (10, [.ref t0, .ref r0, .ref m0, .ref x0, v4, v5, v6, v7, v8, .int 0, .int (-1), .int 0])), (m0, .inl (cM, 8, .inr (.inr (.inr (.inr (fun _ => none)))))), (a_5, .inr (3, [.ref q_6, .int 0])), (t0, .inr (7, [.ref tb, .int 0])), (x0, .inr (8, [.ref t0, .ref m0, .ref sb, .int 0, .int 0, .int (-1)]))] H := hP
      have hD : va_D A [(h0, .inr (10, [.ref t0, .ref r0, .ref m0, .ref x0, v4, v5, v6, v7, v8, .int 0, .int (-1), .int 0])), (m0, .inl (cM, 8, .inr (.inr (.inr (.inr (fun _ => none)))))), (a_5, .inr (3, [.ref q_6, .int 0])), (t0, .inr (7, [.ref tb, .int 0])), (x0, .inr (8, [.ref t0, .ref m0, .ref sb, .int 0, .int 0, .int (-1)]))] := hD
      refine lv_aload_n hx hb dX8_make_62 rfl (lv_at hl 0 rfl) ?_
      refine lv_ifnonnull (tgt := 68) hx hb dX8_make_63 (by decide) ?_
      refine lv_aload_n hx hb dX8_make_68 rfl (lv_at hl 1 rfl) ?_
      refine va_get (D := (dC, dI)) (ci := 10) (v := .ref m0) (C := RX8) (T := TX8) (N := 12) hx hb hts iRX8 hown hK hP 0 rfl rfl 2 (by decide) (hts (.fieldLink RX8 24 "RecordBench" "makes" "[LRecordBench$Make;") (by decide +kernel)) (fun _ h9 => h9) rfl dX8_make_69 ?_
      refine lv_iload_n hx hb dX8_make_72 rfl (lv_at hl 2 rfl) ?_
      refine lv_aload_n hx hb dX8_make_73 rfl (lv_at hl 0 rfl) ?_
      refine va_astq hx hb hK hP hD hS 1 0 2 3 rfl rfl rfl rfl (in_of 8 rfl (by decide) c_1 c_2) dX8_make_74 (fun H locs hP hD hS => ?_)
      obtain ⟨f_17, ef_17⟩ : ∃ y : Nat → Option Nat, y = va_up (fun _ => none) p0.toNatClampNeg (some a_5) := ⟨_, rfl⟩
      have hP : va_P (dC, dI) vwCl [(h0, .inr (10, [.ref t0, .ref r0, .ref m0, .ref x0, v4, v5, v6, v7, v8, .int 0, .int (-1), .int 0])), (m0, .inl (cM, 8, .inr (.inr (.inr (.inr f_17))))), (a_5, .inr (3, [.ref q_6, .int 0])), (t0, .inr (7, [.ref tb, .int 0])), (x0, .inr (8, [.ref t0, .ref m0, .ref sb, .int 0, .int 0, .int (-1)]))] H := by rw [ef_17]; exact hP
      have hD : va_D A [(h0, .inr (10, [.ref t0, .ref r0, .ref m0, .ref x0, v4, v5, v6, v7, v8, .int 0, .int (-1), .int 0])), (m0, .inl (cM, 8, .inr (.inr (.inr (.inr f_17))))), (a_5, .inr (3, [.ref q_6, .int 0])), (t0, .inr (7, [.ref tb, .int 0])), (x0, .inr (8, [.ref t0, .ref m0, .ref sb, .int 0, .int 0, .int (-1)]))] := by rw [ef_17]; exact hD
      refine lv_aload_n hx hb dX8_make_75 rfl (lv_at hl 0 rfl) ?_
      have hFc := va_free (wc := [(a_5, .inr (3, [.ref q_6, .int 0]))]) hD hS hA [2] rfl
      refine va_calli (va_runV (As := []) (rest := []) ⟨hx, hb, hml, hown, hts⟩ (c_X1_count l dC dI a_5 q_6 0 H.size) (cwV 0 hts gp_X8_make_X1_count_97 rfl rfl rfl (by decide +kernel) ⟨Nat.le_of_ble_eq_true rfl, Nat.le_of_ble_eq_true rfl⟩) ⟨Pr.blind _, va_recv hK hP (ci := 3) (q0 := 2) rfl rfl, fun U hU hW => ⟨rfl, Pr.at (hP.sub (ws' := [(a_5, .inr (3, [.ref q_6, .int 0]))]) [2] rfl) (hK.sub (tys' := []) [] rfl) (hD.sub (ws' := [(a_5, .inr (3, [.ref q_6, .int 0]))]) [2] (by decide) rfl) hN hZ hS hFc hU hW⟩⟩ rfl rfl hl.1 rfl (lv_room (Nat.le_of_ble_eq_true rfl)) dX8_make_76 ⟨Nat.le_of_ble_eq_true rfl, Nat.le_of_ble_eq_true rfl⟩) hS (fun q _ h => hFc q h) hFc (fun r_18 u t H1 locs ht hvm hw_19 hB hz1 hk1 hS => ?_)
      obtain ⟨hP, hD, hK⟩ := Bq.join (wr := [(h0, .inr (10, [.ref t0, .ref r0, .ref m0, .ref x0, v4, v5, v6, v7, v8, .int 0, .int (-1), .int 0])), (m0, .inl (cM, 8, .inr (.inr (.inr (.inr f_17))))), (t0, .inr (7, [.ref tb, .int 0])), (x0, .inr (8, [.ref t0, .ref m0, .ref sb, .int 0, .int 0, .int (-1)]))]) hB ht hvm hP hD [2] [0, 1, 3, 4] rfl rfl (by decide) (by decide) hk1 hFc hK
      generalize H1 = H at hP hS ⊢
      have hP : va_P (dC, dI) vwCl [(h0, .inr (10, [.ref t0, .ref r0, .ref m0, .ref x0, v4, v5, v6, v7, v8, .int 0, .int (-1), .int 0])), (m0, .inl (cM, 8, .inr (.inr (.inr (.inr f_17))))), (t0, .inr (7, [.ref tb, .int 0])), (x0, .inr (8, [.ref t0, .ref m0, .ref sb, .int 0, .int 0, .int (-1)])), (a_5, .inr (3, [.ref q_6, .int 0]))] H := hP
      have hD : va_D A [(h0, .inr (10, [.ref t0, .ref r0, .ref m0, .ref x0, v4, v5, v6, v7, v8, .int 0, .int (-1), .int 0])), (m0, .inl (cM, 8, .inr (.inr (.inr (.inr f_17))))), (t0, .inr (7, [.ref tb, .int 0])), (x0, .inr (8, [.ref t0, .ref m0, .ref sb, .int 0, .int 0, .int (-1)])), (a_5, .inr (3, [.ref q_6, .int 0]))] := hD
      have hK : va_K (dC, dI) vwCl [(cM, .object RX1)] s := hK
      try dsimp only at hw_19
      have k_20 := hw_19
      refine W_toi (y := 0) k_20 ?_
      have hP9 := hP.sub (ws' := []) [] rfl
      have hD9 := hD.sub (ws' := []) [] (by decide) rfl
      have hK9 := hK.sub (tys' := []) [] rfl
      exact W.iret (v := 0) hx hb hr (fun t ht hW => ⟨⟨0, (), rfl, (if_neg (fun h => h.elim c_1 c_2)).symm, by rw [ht]; exact hP9, va_K.moved hW.alike hK9, hD9⟩, hS.F ht⟩) hS.2.2 dX8_make_79
def wp_X8_field : List Cond := .code yX8_field cX8_field 5 (some .int) :: ([.methodLink RX8 100 yX8_fieldOf, .instanceMethod yX8_fieldOf, .selects RX8 yX8_fieldOf yX8_fieldOf, .initialized RX8, .code yX8_fieldOf cX8_fieldOf 4 (some (.object "RecordBench$Field")), .fieldLink RX8 24 "RecordBench" "makes" "[LRecordBench$Make;", .methodLink RX8 136 yX8_makeOf, .static yX8_makeOf, .code yX8_makeOf cX8_makeOf 2 (some (.object "RecordBench$Make"))] ++ wsX80)
set_option maxRecDepth 20000 in
theorem gp_X8_field_X8_fieldOf_100 : GoodIn wp_X8_field (wsV RX8 100 RX8 yX8_fieldOf wp_X8_fieldOf) := goodIn_p _ [5, 9] rfl (by decide +kernel)
set_option maxHeartbeats 4000000 in
set_option maxRecDepth 100000 in
theorem c_X8_field (l : Launch) (dC : Nat → ClassId) (dI : Nat → Nat → Nat) (h0 : Nat) (t0 : Nat) (r0 : Nat) (m0 : Nat) (x0 : Nat) (v4 : Value) (v5 : Value) (v6 : Value) (v7 : Value) (v8 : Value) (cM : ClassId) (p0 : Int32) (p1 : Int32) (p2 : Int32) (sz : Nat) : Met l yX8_field wp_X8_field ({ frames := 2, cells := 0, slots := 0, locals := 52 }) (va_Pc [.ref h0, .int p0, .int p1, .int p2] (Pr (dC, dI) [(cM, .object RX1)] [(h0, .inr (10, [.ref t0, .ref r0, .ref m0, .ref x0, v4, v5, v6, v7, v8, .int 0, .int ((-1)), .int 0])), (m0, .inl (cM, 8, .inr (.inr (.inr (.inr (fun _ => none))))))] sz)) (va_Qi (fun r : Int32 => (fun _ : Unit => r = -1)) (Bq (dC, dI) (fun _ : Unit => []) (fun _ : Unit => []) (va_A [(h0, .inr (10, [.ref t0, .ref r0, .ref m0, .ref x0, v4, v5, v6, v7, v8, .int 0, .int ((-1)), .int 0])), (m0, .inl (cM, 8, .inr (.inr (.inr (.inr (fun _ => none))))))] sz)) (va_A [(h0, .inr (10, [.ref t0, .ref r0, .ref m0, .ref x0, v4, v5, v6, v7, v8, .int 0, .int ((-1)), .int 0])), (m0, .inl (cM, 8, .inr (.inr (.inr (.inr (fun _ => none))))))] sz)) 0 0 (va_A [(h0, .inr (10, [.ref t0, .ref r0, .ref m0, .ref x0, v4, v5, v6, v7, v8, .int 0, .int ((-1)), .int 0])), (m0, .inl (cM, 8, .inr (.inr (.inr (.inr (fun _ => none))))))] sz) := by
  refine Met.ofW (cc := cX8_field) (maxL := 5) (ret := (some .int)) (by decide) rfl ?_
  intro p e s m args below meth c s₁ B hml hv
  obtain ⟨rfl, hsz, hP, hK, hD0, hN, hZ⟩ := hv
  have hx := B.exec
  have hb := B.bytes
  have hr := B.returns
  have hts := atoms_spec (ws := wp_X8_field) B.pre
  have hown : s.vm.findClass RX8 = some m.cls := findClass_of_methodNamed B.named
  have hlocks := B.notSynchronized
  subst hsz
  have hD := hD0.self (sz := s.heap.size)
  generalize hAe : va_A [(h0, .inr (10, [.ref t0, .ref r0, .ref m0, .ref x0, v4, v5, v6, v7, v8, .int 0, .int ((-1)), .int 0])), (m0, .inl (cM, 8, .inr (.inr (.inr (.inr (fun _ => none))))))] s.heap.size = A at hD hZ ⊢
  have hA : ∀ q : Nat, s.heap.size ≤ q → A q := fun q h => by rw [← hAe]; exact Or.inr h
  have hS : va_S A s.heap s.heap [] := va_S.rf
  have hP : va_P (dC, dI) vwCl [(h0, .inr (10, [.ref t0, .ref r0, .ref m0, .ref x0, v4, v5, v6, v7, v8, .int 0, .int ((-1)), .int 0])), (m0, .inl (cM, 8, .inr (.inr (.inr (.inr (fun _ => none))))))] s.heap := hP
  have hl := lv_entry ([.ref h0, .int p0, .int p1, .int p2]) (n := 5) (Nat.le_of_ble_eq_true rfl)
  rw [lg_entry_eq]
  generalize (lg_sl ([.ref h0, .int p0, .int p1, .int p2]) ++ List.replicate (5 - (lg_sl ([.ref h0, .int p0, .int p1, .int p2])).length) Slot.unset).toArray = ls at hl ⊢
  have hl : lv_has ls 5 [(0, .ref h0), (1, .int p0), (2, .int p1), (3, .int p2)] := hl
  refine lv_aload_n hx hb dX8_field_0 rfl (lv_at hl 0 rfl) ?_
  refine lv_iload_n hx hb dX8_field_1 rfl (lv_at hl 1 rfl) ?_
  refine lv_iload_n hx hb dX8_field_2 rfl (lv_at hl 2 rfl) ?_
  have hFc := va_free (wc := [(h0, .inr (10, [.ref t0, .ref r0, .ref m0, .ref x0, v4, v5, v6, v7, v8, .int 0, .int ((-1)), .int 0])), (m0, .inl (cM, 8, .inr (.inr (.inr (.inr (fun _ => none))))))]) hD hS hA [0, 1] rfl
  refine va_callq (va_runV (As := [.int p0, .int p1]) (rest := []) ⟨hx, hb, hml, hown, hts⟩ (c_X8_fieldOf l dC dI h0 t0 r0 m0 x0 (v4) (v5) (v6) (v7) (v8) cM p0 p1 s.heap.size) (cwV 2 hts gp_X8_field_X8_fieldOf_100 rfl rfl rfl (by decide +kernel) ⟨Nat.le_of_ble_eq_true rfl, Nat.le_of_ble_eq_true rfl⟩) ⟨Pr.blind _, va_recv hK hP (ci := 10) (q0 := 0) rfl rfl, fun U hU hW => ⟨rfl, Pr.at (hP.sub (ws' := [(h0, .inr (10, [.ref t0, .ref r0, .ref m0, .ref x0, v4, v5, v6, v7, v8, .int 0, .int ((-1)), .int 0])), (m0, .inl (cM, 8, .inr (.inr (.inr (.inr (fun _ => none))))))]) [0, 1] rfl) (hK.sub (tys' := [(cM, .object RX1)]) [0] rfl) (hD.sub (ws' := [(h0, .inr (10, [.ref t0, .ref r0, .ref m0, .ref x0, v4, v5, v6, v7, v8, .int 0, .int ((-1)), .int 0])), (m0, .inl (cM, 8, .inr (.inr (.inr (.inr (fun _ => none))))))]) [0, 1] (by decide) rfl) hN hZ hS hFc hU hW⟩⟩ rfl rfl hl.1 rfl (lv_room (Nat.le_of_ble_eq_true rfl)) dX8_field_3 ⟨Nat.le_of_ble_eq_true rfl, Nat.le_of_ble_eq_true rfl⟩) hS (fun q _ h => hFc q h) hFc (fun r_1 u t H1 locs ht hvm hw_2 hB hz1 hk1 hS => ?_)
  obtain ⟨hP, hD, hK⟩ := Bq.join (wr := []) hB ht hvm hP hD [0, 1] [] rfl rfl (by decide) (by decide) hk1 hFc hK
  generalize H1 = H at hP hS ⊢
  have hP : va_P (dC, dI) vwCl [(h0, .inr (10, [.ref t0, .ref r0, .ref m0, .ref x0, v4, v5, v6, v7, v8, .int 0, .int (-1), .int 0])), (m0, .inl (cM, 8, .inr (.inr (.inr (.inr (fun _ => none))))))] H := hP
  have hD : va_D A [(h0, .inr (10, [.ref t0, .ref r0, .ref m0, .ref x0, v4, v5, v6, v7, v8, .int 0, .int (-1), .int 0])), (m0, .inl (cM, 8, .inr (.inr (.inr (.inr (fun _ => none))))))] := hD
  have hK : va_K (dC, dI) vwCl [(cM, .object RX1)] s := hK
  try dsimp only at hw_2
  have k_3 := hw_2
  subst k_3
  refine W.eq (g2 := F0 m 6 ls [.null]) rfl ?_
  refine lv_astoreN (lv' := [(4, .null), (0, .ref h0), (1, .int p0), (2, .int p1), (3, .int p2)]) hx hb dX8_field_6 hl (by decide) rfl (fun ls hl => ?_)
  refine lv_aloadN hx hb dX8_field_8 (lv_at hl 0 rfl) ?_
  refine lv_ifnonnullN hx hb dX8_field_10 ?_
  refine lv_iconst (v := (-1)) hx hb dX8_field_13 (by decide) ?_
  have hP9 := hP.sub (ws' := []) [] rfl
  have hD9 := hD.sub (ws' := []) [] (by decide) rfl
  have hK9 := hK.sub (tys' := []) [] rfl
  exact W.iret (v := (-1)) hx hb hr (fun t ht hW => ⟨⟨(-1), (), rfl, rfl, by rw [ht]; exact hP9, va_K.moved hW.alike hK9, hD9⟩, hS.F ht⟩) hS.2.2 dX8_field_14
def wp_X8_plain : List Cond := .code yX8_plain cX8_plain 4 (some .long) :: ([.methodLink RX8 100 yX8_fieldOf, .instanceMethod yX8_fieldOf, .selects RX8 yX8_fieldOf yX8_fieldOf, .initialized RX8, .code yX8_fieldOf cX8_fieldOf 4 (some (.object "RecordBench$Field")), .fieldLink RX8 24 "RecordBench" "makes" "[LRecordBench$Make;", .methodLink RX8 136 yX8_makeOf, .static yX8_makeOf, .code yX8_makeOf cX8_makeOf 2 (some (.object "RecordBench$Make"))] ++ wsX80)
set_option maxRecDepth 20000 in
theorem gp_X8_plain_X8_fieldOf_100 : GoodIn wp_X8_plain (wsV RX8 100 RX8 yX8_fieldOf wp_X8_fieldOf) := goodIn_p _ [5, 9] rfl (by decide +kernel)
set_option maxHeartbeats 4000000 in
set_option maxRecDepth 100000 in
theorem c_X8_plain (l : Launch) (dC : Nat → ClassId) (dI : Nat → Nat → Nat) (h0 : Nat) (t0 : Nat) (r0 : Nat) (m0 : Nat) (x0 : Nat) (v4 : Value) (v5 : Value) (v6 : Value) (v7 : Value) (v8 : Value) (cM : ClassId) (p0 : Int32) (p1 : Int32) (sz : Nat) : Met l yX8_plain wp_X8_plain ({ frames := 2, cells := 0, slots := 0, locals := 52 }) (va_Pc [.ref h0, .int p0, .int p1] (Pr (dC, dI) [(cM, .object RX1)] [(h0, .inr (10, [.ref t0, .ref r0, .ref m0, .ref x0, v4, v5, v6, v7, v8, .int 0, .int ((-1)), .int 0])), (m0, .inl (cM, 8, .inr (.inr (.inr (.inr (fun _ => none))))))] sz)) (va_Ql (fun r : Int64 => (fun _ : Unit => r = 0)) (Bq (dC, dI) (fun _ : Unit => []) (fun _ : Unit => []) (va_A [(h0, .inr (10, [.ref t0, .ref r0, .ref m0, .ref x0, v4, v5, v6, v7, v8, .int 0, .int ((-1)), .int 0])), (m0, .inl (cM, 8, .inr (.inr (.inr (.inr (fun _ => none))))))] sz)) (va_A [(h0, .inr (10, [.ref t0, .ref r0, .ref m0, .ref x0, v4, v5, v6, v7, v8, .int 0, .int ((-1)), .int 0])), (m0, .inl (cM, 8, .inr (.inr (.inr (.inr (fun _ => none))))))] sz)) 0 0 (va_A [(h0, .inr (10, [.ref t0, .ref r0, .ref m0, .ref x0, v4, v5, v6, v7, v8, .int 0, .int ((-1)), .int 0])), (m0, .inl (cM, 8, .inr (.inr (.inr (.inr (fun _ => none))))))] sz) := by
  refine Met.ofW (cc := cX8_plain) (maxL := 4) (ret := (some .long)) (by decide) rfl ?_
  intro p e s m args below meth c s₁ B hml hv
  obtain ⟨rfl, hsz, hP, hK, hD0, hN, hZ⟩ := hv
  have hx := B.exec
  have hb := B.bytes
  have hr := B.returns
  have hts := atoms_spec (ws := wp_X8_plain) B.pre
  have hown : s.vm.findClass RX8 = some m.cls := findClass_of_methodNamed B.named
  have hlocks := B.notSynchronized
  subst hsz
  have hD := hD0.self (sz := s.heap.size)
  generalize hAe : va_A [(h0, .inr (10, [.ref t0, .ref r0, .ref m0, .ref x0, v4, v5, v6, v7, v8, .int 0, .int ((-1)), .int 0])), (m0, .inl (cM, 8, .inr (.inr (.inr (.inr (fun _ => none))))))] s.heap.size = A at hD hZ ⊢
  have hA : ∀ q : Nat, s.heap.size ≤ q → A q := fun q h => by rw [← hAe]; exact Or.inr h
  have hS : va_S A s.heap s.heap [] := va_S.rf
  have hP : va_P (dC, dI) vwCl [(h0, .inr (10, [.ref t0, .ref r0, .ref m0, .ref x0, v4, v5, v6, v7, v8, .int 0, .int ((-1)), .int 0])), (m0, .inl (cM, 8, .inr (.inr (.inr (.inr (fun _ => none))))))] s.heap := hP
  have hl := lv_entry ([.ref h0, .int p0, .int p1]) (n := 4) (Nat.le_of_ble_eq_true rfl)
  rw [lg_entry_eq]
  generalize (lg_sl ([.ref h0, .int p0, .int p1]) ++ List.replicate (4 - (lg_sl ([.ref h0, .int p0, .int p1])).length) Slot.unset).toArray = ls at hl ⊢
  have hl : lv_has ls 4 [(0, .ref h0), (1, .int p0), (2, .int p1)] := hl
  refine lv_aload_n hx hb dX8_plain_0 rfl (lv_at hl 0 rfl) ?_
  refine lv_iload_n hx hb dX8_plain_1 rfl (lv_at hl 1 rfl) ?_
  refine lv_iload_n hx hb dX8_plain_2 rfl (lv_at hl 2 rfl) ?_
  have hFc := va_free (wc := [(h0, .inr (10, [.ref t0, .ref r0, .ref m0, .ref x0, v4, v5, v6, v7, v8, .int 0, .int ((-1)), .int 0])), (m0, .inl (cM, 8, .inr (.inr (.inr (.inr (fun _ => none))))))]) hD hS hA [0, 1] rfl
  refine va_callq (va_runV (As := [.int p0, .int p1]) (rest := []) ⟨hx, hb, hml, hown, hts⟩ (c_X8_fieldOf l dC dI h0 t0 r0 m0 x0 (v4) (v5) (v6) (v7) (v8) cM p0 p1 s.heap.size) (cwV 2 hts gp_X8_plain_X8_fieldOf_100 rfl rfl rfl (by decide +kernel) ⟨Nat.le_of_ble_eq_true rfl, Nat.le_of_ble_eq_true rfl⟩) ⟨Pr.blind _, va_recv hK hP (ci := 10) (q0 := 0) rfl rfl, fun U hU hW => ⟨rfl, Pr.at (hP.sub (ws' := [(h0, .inr (10, [.ref t0, .ref r0, .ref m0, .ref x0, v4, v5, v6, v7, v8, .int 0, .int ((-1)), .int 0])), (m0, .inl (cM, 8, .inr (.inr (.inr (.inr (fun _ => none))))))]) [0, 1] rfl) (hK.sub (tys' := [(cM, .object RX1)]) [0] rfl) (hD.sub (ws' := [(h0, .inr (10, [.ref t0, .ref r0, .ref m0, .ref x0, v4, v5, v6, v7, v8, .int 0, .int ((-1)), .int 0])), (m0, .inl (cM, 8, .inr (.inr (.inr (.inr (fun _ => none))))))]) [0, 1] (by decide) rfl) hN hZ hS hFc hU hW⟩⟩ rfl rfl hl.1 rfl (lv_room (Nat.le_of_ble_eq_true rfl)) dX8_plain_3 ⟨Nat.le_of_ble_eq_true rfl, Nat.le_of_ble_eq_true rfl⟩) hS (fun q _ h => hFc q h) hFc (fun r_1 u t H1 locs ht hvm hw_2 hB hz1 hk1 hS => ?_)
  obtain ⟨hP, hD, hK⟩ := Bq.join (wr := []) hB ht hvm hP hD [0, 1] [] rfl rfl (by decide) (by decide) hk1 hFc hK
  generalize H1 = H at hP hS ⊢
  have hP : va_P (dC, dI) vwCl [(h0, .inr (10, [.ref t0, .ref r0, .ref m0, .ref x0, v4, v5, v6, v7, v8, .int 0, .int (-1), .int 0])), (m0, .inl (cM, 8, .inr (.inr (.inr (.inr (fun _ => none))))))] H := hP
  have hD : va_D A [(h0, .inr (10, [.ref t0, .ref r0, .ref m0, .ref x0, v4, v5, v6, v7, v8, .int 0, .int (-1), .int 0])), (m0, .inl (cM, 8, .inr (.inr (.inr (.inr (fun _ => none))))))] := hD
  have hK : va_K (dC, dI) vwCl [(cM, .object RX1)] s := hK
  try dsimp only at hw_2
  have k_3 := hw_2
  subst k_3
  refine W.eq (g2 := F0 m 6 ls [.null]) rfl ?_
  refine lv_astore_nN (lv' := [(3, .null), (0, .ref h0), (1, .int p0), (2, .int p1)]) hx hb dX8_plain_6 rfl hl (by decide) rfl (fun ls hl => ?_)
  refine lv_aload_nN hx hb dX8_plain_7 rfl (lv_at hl 0 rfl) ?_
  refine lv_ifnonnullN hx hb dX8_plain_8 ?_
  refine lv_lconst (v := 0) hx hb dX8_plain_11 (by decide) ?_
  refine lv_goto (tgt := 19) hx hb dX8_plain_12 (by decide) ?_
  have hP9 := hP.sub (ws' := []) [] rfl
  have hD9 := hD.sub (ws' := []) [] (by decide) rfl
  have hK9 := hK.sub (tys' := []) [] rfl
  exact W.lret (v := 0) hx hb hr (fun t ht hW => ⟨⟨0, (), rfl, rfl, by rw [ht]; exact hP9, va_K.moved hW.alike hK9, hD9⟩, hS.F ht⟩) hS.2.2 dX8_plain_19
def wp_X8_set : List Cond := .code yX8_set cX8_set 9 (some .int) :: ([.methodLink RX8 128 yX8_recordOf, .instanceMethod yX8_recordOf, .selects RX8 yX8_recordOf yX8_recordOf, .initialized RX8, .fieldLink RX8 24 "RecordBench" "makes" "[LRecordBench$Make;", .methodLink RX8 136 yX8_makeOf, .static yX8_makeOf, .methodLink RX8 100 yX8_fieldOf, .instanceMethod yX8_fieldOf, .selects RX8 yX8_fieldOf yX8_fieldOf, .code yX8_recordOf cX8_recordOf 2 (some (.object "RecordBench$Row")), .fieldLink RX8 18 "RecordBench" "records" "[LRecordBench$Row;", .code yX8_makeOf cX8_makeOf 2 (some (.object "RecordBench$Make")), .code yX8_fieldOf cX8_fieldOf 4 (some (.object "RecordBench$Field"))] ++ wsX80)
set_option maxRecDepth 20000 in
theorem gp_X8_set_X8_recordAny_128 : GoodIn wp_X8_set (wsV RX8 128 RX8 yX8_recordOf wp_X8_recordAny) := goodIn_p _ [11] rfl (by decide +kernel)
set_option maxRecDepth 20000 in
theorem gp_X8_set_X8_makeOf_136 : GoodIn wp_X8_set (wsS RX8 136 yX8_makeOf wp_X8_makeOf) := goodIn_p _ [13] rfl (by decide +kernel)
set_option maxRecDepth 20000 in
theorem gp_X8_set_X8_fieldOf_100 : GoodIn wp_X8_set (wsV RX8 100 RX8 yX8_fieldOf wp_X8_fieldOf) := goodIn_p _ [14, 13] rfl (by decide +kernel)
set_option maxHeartbeats 4000000 in
set_option maxRecDepth 100000 in
theorem c_X8_set (l : Launch) (dC : Nat → ClassId) (dI : Nat → Nat → Nat) (h0 : Nat) (t0 : Nat) (r0 : Nat) (m0 : Nat) (x0 : Nat) (v4 : Value) (v5 : Value) (v6 : Value) (v7 : Value) (v8 : Value) (cM : ClassId) (cR : ClassId) (fR : Nat → Option Nat) (p0 : Int32) (p1 : Int32) (p2 : Int32) (pl : Int64) (sz : Nat) : Met l yX8_set wp_X8_set ({ frames := 2, cells := 0, slots := 0, locals := 52 }) (va_Pc [.ref h0, .int p0, .int p1, .int p2, .long pl] (Pr (dC, dI) [(cM, .object RX1), (cR, .object RX5)] [(h0, .inr (10, [.ref t0, .ref r0, .ref m0, .ref x0, v4, v5, v6, v7, v8, .int 0, .int ((-1)), .int 0])), (m0, .inl (cM, 8, .inr (.inr (.inr (.inr (fun _ => none)))))), (r0, .inl (cR, 4, .inr (.inr (.inr (.inr fR)))))] sz)) (va_Qi (fun r : Int32 => (fun _ : Unit => r = -1)) (Bq (dC, dI) (fun _ : Unit => []) (fun _ : Unit => []) (va_A [(h0, .inr (10, [.ref t0, .ref r0, .ref m0, .ref x0, v4, v5, v6, v7, v8, .int 0, .int ((-1)), .int 0])), (m0, .inl (cM, 8, .inr (.inr (.inr (.inr (fun _ => none)))))), (r0, .inl (cR, 4, .inr (.inr (.inr (.inr fR)))))] sz)) (va_A [(h0, .inr (10, [.ref t0, .ref r0, .ref m0, .ref x0, v4, v5, v6, v7, v8, .int 0, .int ((-1)), .int 0])), (m0, .inl (cM, 8, .inr (.inr (.inr (.inr (fun _ => none)))))), (r0, .inl (cR, 4, .inr (.inr (.inr (.inr fR)))))] sz)) 0 0 (va_A [(h0, .inr (10, [.ref t0, .ref r0, .ref m0, .ref x0, v4, v5, v6, v7, v8, .int 0, .int ((-1)), .int 0])), (m0, .inl (cM, 8, .inr (.inr (.inr (.inr (fun _ => none)))))), (r0, .inl (cR, 4, .inr (.inr (.inr (.inr fR)))))] sz) := by
  refine Met.ofW (cc := cX8_set) (maxL := 9) (ret := (some .int)) (by decide) rfl ?_
  intro p e s m args below meth c s₁ B hml hv
  obtain ⟨rfl, hsz, hP, hK, hD0, hN, hZ⟩ := hv
  have hx := B.exec
  have hb := B.bytes
  have hr := B.returns
  have hts := atoms_spec (ws := wp_X8_set) B.pre
  have hown : s.vm.findClass RX8 = some m.cls := findClass_of_methodNamed B.named
  have hlocks := B.notSynchronized
  have iRX8 : ∀ w ∈ u_ws RX8 TX8 12, w ∈ wp_X8_set := by decide +kernel
  subst hsz
  have hD := hD0.self (sz := s.heap.size)
  generalize hAe : va_A [(h0, .inr (10, [.ref t0, .ref r0, .ref m0, .ref x0, v4, v5, v6, v7, v8, .int 0, .int ((-1)), .int 0])), (m0, .inl (cM, 8, .inr (.inr (.inr (.inr (fun _ => none)))))), (r0, .inl (cR, 4, .inr (.inr (.inr (.inr fR)))))] s.heap.size = A at hD hZ ⊢
  have hA : ∀ q : Nat, s.heap.size ≤ q → A q := fun q h => by rw [← hAe]; exact Or.inr h
  have hS : va_S A s.heap s.heap [] := va_S.rf
  have hP : va_P (dC, dI) vwCl [(h0, .inr (10, [.ref t0, .ref r0, .ref m0, .ref x0, v4, v5, v6, v7, v8, .int 0, .int ((-1)), .int 0])), (m0, .inl (cM, 8, .inr (.inr (.inr (.inr (fun _ => none)))))), (r0, .inl (cR, 4, .inr (.inr (.inr (.inr fR)))))] s.heap := hP
  have hl := lv_entry ([.ref h0, .int p0, .int p1, .int p2, .long pl]) (n := 9) (Nat.le_of_ble_eq_true rfl)
  rw [lg_entry_eq]
  generalize (lg_sl ([.ref h0, .int p0, .int p1, .int p2, .long pl]) ++ List.replicate (9 - (lg_sl ([.ref h0, .int p0, .int p1, .int p2, .long pl])).length) Slot.unset).toArray = ls at hl ⊢
  have hl : lv_has ls 9 [(0, .ref h0), (1, .int p0), (2, .int p1), (3, .int p2), (4, .long pl)] := hl
  refine lv_aload_n hx hb dX8_set_0 rfl (lv_at hl 0 rfl) ?_
  refine lv_iload_n hx hb dX8_set_1 rfl (lv_at hl 1 rfl) ?_
  have hFc := va_free (wc := [(h0, .inr (10, [.ref t0, .ref r0, .ref m0, .ref x0, v4, v5, v6, v7, v8, .int 0, .int ((-1)), .int 0])), (r0, .inl (cR, 4, .inr (.inr (.inr (.inr fR)))))]) hD hS hA [0, 2] rfl
  refine va_callq (va_runV (As := [.int p0]) (rest := []) ⟨hx, hb, hml, hown, hts⟩ (c_X8_recordAny l dC dI h0 t0 r0 m0 x0 (v4) (v5) (v6) (v7) (v8) cR fR p0 s.heap.size) (cwV 1 hts gp_X8_set_X8_recordAny_128 rfl rfl rfl (by decide +kernel) ⟨Nat.le_of_ble_eq_true rfl, Nat.le_of_ble_eq_true rfl⟩) ⟨Pr.blind _, va_recv hK hP (ci := 10) (q0 := 0) rfl rfl, fun U hU hW => ⟨rfl, Pr.at (hP.sub (ws' := [(h0, .inr (10, [.ref t0, .ref r0, .ref m0, .ref x0, v4, v5, v6, v7, v8, .int 0, .int ((-1)), .int 0])), (r0, .inl (cR, 4, .inr (.inr (.inr (.inr fR)))))]) [0, 2] rfl) (hK.sub (tys' := [(cR, .object RX5)]) [1] rfl) (hD.sub (ws' := [(h0, .inr (10, [.ref t0, .ref r0, .ref m0, .ref x0, v4, v5, v6, v7, v8, .int 0, .int ((-1)), .int 0])), (r0, .inl (cR, 4, .inr (.inr (.inr (.inr fR)))))]) [0, 2] (by decide) rfl) hN hZ hS hFc hU hW⟩⟩ rfl rfl hl.1 rfl (lv_room (Nat.le_of_ble_eq_true rfl)) dX8_set_2 ⟨Nat.le_of_ble_eq_true rfl, Nat.le_of_ble_eq_true rfl⟩) hS (fun q _ h => hFc q h) hFc (fun r_1 u t H1 locs ht hvm hw_2 hB hz1 hk1 hS => ?_)
  obtain ⟨hP, hD, hK⟩ := Bq.join (wr := [(m0, .inl (cM, 8, .inr (.inr (.inr (.inr (fun _ => none))))))]) hB ht hvm hP hD [0, 2] [1] rfl rfl (by decide) (by decide) hk1 hFc hK
  generalize H1 = H at hP hS ⊢
  have hP : va_P (dC, dI) vwCl [(m0, .inl (cM, 8, .inr (.inr (.inr (.inr (fun _ => none)))))), (h0, .inr (10, [.ref t0, .ref r0, .ref m0, .ref x0, v4, v5, v6, v7, v8, .int 0, .int (-1), .int 0])), (r0, .inl (cR, 4, .inr (.inr (.inr (.inr fR)))))] H := hP
  have hD : va_D A [(m0, .inl (cM, 8, .inr (.inr (.inr (.inr (fun _ => none)))))), (h0, .inr (10, [.ref t0, .ref r0, .ref m0, .ref x0, v4, v5, v6, v7, v8, .int 0, .int (-1), .int 0])), (r0, .inl (cR, 4, .inr (.inr (.inr (.inr fR)))))] := hD
  have hK : va_K (dC, dI) vwCl [(cM, .object RX1), (cR, .object RX5)] s := hK
  try dsimp only at hw_2
  rcases r_1 with _ | a_3
  · refine W.eq (g2 := F0 m 5 ls [.null]) rfl ?_
    refine lv_astoreN (lv' := [(6, .null), (0, .ref h0), (1, .int p0), (2, .int p1), (3, .int p2), (4, .long pl)]) hx hb dX8_set_5 hl (by decide) rfl (fun ls hl => ?_)
    refine lv_aload_n hx hb dX8_set_7 rfl (lv_at hl 1 rfl) ?_
    refine va_get (D := (dC, dI)) (ci := 10) (v := .ref m0) (C := RX8) (T := TX8) (N := 12) hx hb hts iRX8 hown hK hP 1 rfl rfl 2 (by decide) (hts (.fieldLink RX8 24 "RecordBench" "makes" "[LRecordBench$Make;") (by decide +kernel)) (fun _ h9 => h9) rfl dX8_set_8 ?_
    refine lv_iload_n hx hb dX8_set_11 rfl (lv_at hl 3 rfl) ?_
    have hFc := va_free (wc := [(m0, .inl (cM, 8, .inr (.inr (.inr (.inr (fun _ => none))))))]) hD hS hA [0] rfl
    refine va_callq (va_runS (As := [.ref m0, .int p1]) (rest := []) ⟨hx, hb, hml, hown, hts⟩ (c_X8_makeOf l dC dI m0 p1 cM H.size) (cwS 2 hts gp_X8_set_X8_makeOf_136 rfl rfl rfl (by decide +kernel) ⟨Nat.le_of_ble_eq_true rfl, Nat.le_of_ble_eq_true rfl⟩) ⟨Pr.blind _, fun U hU hW => ⟨rfl, Pr.at (hP.sub (ws' := [(m0, .inl (cM, 8, .inr (.inr (.inr (.inr (fun _ => none))))))]) [0] rfl) (hK.sub (tys' := [(cM, .object RX1)]) [0] rfl) (hD.sub (ws' := [(m0, .inl (cM, 8, .inr (.inr (.inr (.inr (fun _ => none))))))]) [0] (by decide) rfl) hN hZ hS hFc hU hW⟩⟩ rfl rfl hl.1 rfl (lv_room (Nat.le_of_ble_eq_true rfl)) dX8_set_12 ⟨Nat.le_of_ble_eq_true rfl, Nat.le_of_ble_eq_true rfl⟩) hS (fun q _ h => hFc q h) hFc (fun r_4 u t H1 locs ht hvm hw_5 hB hz1 hk1 hS => ?_)
    obtain ⟨hP, hD, hK⟩ := Bq.join (wr := [(h0, .inr (10, [.ref t0, .ref r0, .ref m0, .ref x0, v4, v5, v6, v7, v8, .int 0, .int (-1), .int 0])), (r0, .inl (cR, 4, .inr (.inr (.inr (.inr fR)))))]) hB ht hvm hP hD [0] [1, 2] rfl rfl (by decide) (by decide) hk1 hFc hK
    generalize H1 = H at hP hS ⊢
    have hP : va_P (dC, dI) vwCl [(h0, .inr (10, [.ref t0, .ref r0, .ref m0, .ref x0, v4, v5, v6, v7, v8, .int 0, .int (-1), .int 0])), (r0, .inl (cR, 4, .inr (.inr (.inr (.inr fR))))), (m0, .inl (cM, 8, .inr (.inr (.inr (.inr (fun _ => none))))))] H := hP
    have hD : va_D A [(h0, .inr (10, [.ref t0, .ref r0, .ref m0, .ref x0, v4, v5, v6, v7, v8, .int 0, .int (-1), .int 0])), (r0, .inl (cR, 4, .inr (.inr (.inr (.inr fR))))), (m0, .inl (cM, 8, .inr (.inr (.inr (.inr (fun _ => none))))))] := hD
    have hK : va_K (dC, dI) vwCl [(cM, .object RX1), (cR, .object RX5)] s := hK
    try dsimp only at hw_5
    have k_6 := hw_5
    subst k_6
    refine W.eq (g2 := F0 m 15 ls [.null]) rfl ?_
    refine lv_astoreN (lv' := [(7, .null), (6, .null), (0, .ref h0), (1, .int p0), (2, .int p1), (3, .int p2), (4, .long pl)]) hx hb dX8_set_15 hl (by decide) rfl (fun ls hl => ?_)
    refine lv_aload_n hx hb dX8_set_17 rfl (lv_at hl 2 rfl) ?_
    refine lv_iload_n hx hb dX8_set_18 rfl (lv_at hl 4 rfl) ?_
    refine lv_iload_n hx hb dX8_set_19 rfl (lv_at hl 5 rfl) ?_
    have hFc := va_free (wc := [(h0, .inr (10, [.ref t0, .ref r0, .ref m0, .ref x0, v4, v5, v6, v7, v8, .int 0, .int (-1), .int 0])), (m0, .inl (cM, 8, .inr (.inr (.inr (.inr (fun _ => none))))))]) hD hS hA [0, 2] rfl
    refine va_callq (va_runV (As := [.int p1, .int p2]) (rest := []) ⟨hx, hb, hml, hown, hts⟩ (c_X8_fieldOf l dC dI h0 t0 r0 m0 x0 (v4) (v5) (v6) (v7) (v8) cM p1 p2 H.size) (cwV 2 hts gp_X8_set_X8_fieldOf_100 rfl rfl rfl (by decide +kernel) ⟨Nat.le_of_ble_eq_true rfl, Nat.le_of_ble_eq_true rfl⟩) ⟨Pr.blind _, va_recv hK hP (ci := 10) (q0 := 0) rfl rfl, fun U hU hW => ⟨rfl, Pr.at (hP.sub (ws' := [(h0, .inr (10, [.ref t0, .ref r0, .ref m0, .ref x0, v4, v5, v6, v7, v8, .int 0, .int (-1), .int 0])), (m0, .inl (cM, 8, .inr (.inr (.inr (.inr (fun _ => none))))))]) [0, 2] rfl) (hK.sub (tys' := [(cM, .object RX1)]) [0] rfl) (hD.sub (ws' := [(h0, .inr (10, [.ref t0, .ref r0, .ref m0, .ref x0, v4, v5, v6, v7, v8, .int 0, .int (-1), .int 0])), (m0, .inl (cM, 8, .inr (.inr (.inr (.inr (fun _ => none))))))]) [0, 2] (by decide) rfl) hN hZ hS hFc hU hW⟩⟩ rfl rfl hl.1 rfl (lv_room (Nat.le_of_ble_eq_true rfl)) dX8_set_20 ⟨Nat.le_of_ble_eq_true rfl, Nat.le_of_ble_eq_true rfl⟩) hS (fun q _ h => hFc q h) hFc (fun r_7 u t H1 locs ht hvm hw_8 hB hz1 hk1 hS => ?_)
    obtain ⟨hP, hD, hK⟩ := Bq.join (wr := [(r0, .inl (cR, 4, .inr (.inr (.inr (.inr fR)))))]) hB ht hvm hP hD [0, 2] [1] rfl rfl (by decide) (by decide) hk1 hFc hK
    generalize H1 = H at hP hS ⊢
    have hP : va_P (dC, dI) vwCl [(r0, .inl (cR, 4, .inr (.inr (.inr (.inr fR))))), (h0, .inr (10, [.ref t0, .ref r0, .ref m0, .ref x0, v4, v5, v6, v7, v8, .int 0, .int (-1), .int 0])), (m0, .inl (cM, 8, .inr (.inr (.inr (.inr (fun _ => none))))))] H := hP
    have hD : va_D A [(r0, .inl (cR, 4, .inr (.inr (.inr (.inr fR))))), (h0, .inr (10, [.ref t0, .ref r0, .ref m0, .ref x0, v4, v5, v6, v7, v8, .int 0, .int (-1), .int 0])), (m0, .inl (cM, 8, .inr (.inr (.inr (.inr (fun _ => none))))))] := hD
    have hK : va_K (dC, dI) vwCl [(cM, .object RX1), (cR, .object RX5)] s := hK
    try dsimp only at hw_8
    have k_9 := hw_8
    subst k_9
    refine W.eq (g2 := F0 m 23 ls [.null]) rfl ?_
    refine lv_astoreN (lv' := [(8, .null), (7, .null), (6, .null), (0, .ref h0), (1, .int p0), (2, .int p1), (3, .int p2), (4, .long pl)]) hx hb dX8_set_23 hl (by decide) rfl (fun ls hl => ?_)
    refine lv_aloadN hx hb dX8_set_25 (lv_at hl 2 rfl) ?_
    refine lv_ifnullN (tgt := 48) hx hb dX8_set_27 (by decide) ?_
    refine lv_iconst (v := (-1)) hx hb dX8_set_48 (by decide) ?_
    have hP9 := hP.sub (ws' := []) [] rfl
    have hD9 := hD.sub (ws' := []) [] (by decide) rfl
    have hK9 := hK.sub (tys' := []) [] rfl
    exact W.iret (v := (-1)) hx hb hr (fun t ht hW => ⟨⟨(-1), (), rfl, rfl, by rw [ht]; exact hP9, va_K.moved hW.alike hK9, hD9⟩, hS.F ht⟩) hS.2.2 dX8_set_49
  · refine W.eq (g2 := F0 m 5 ls [.ref a_3]) rfl ?_
    refine lv_astore (lv' := [(6, .ref a_3), (0, .ref h0), (1, .int p0), (2, .int p1), (3, .int p2), (4, .long pl)]) hx hb dX8_set_5 hl (by decide) rfl (fun ls hl => ?_)
    refine lv_aload_n hx hb dX8_set_7 rfl (lv_at hl 1 rfl) ?_
    refine va_get (D := (dC, dI)) (ci := 10) (v := .ref m0) (C := RX8) (T := TX8) (N := 12) hx hb hts iRX8 hown hK hP 1 rfl rfl 2 (by decide) (hts (.fieldLink RX8 24 "RecordBench" "makes" "[LRecordBench$Make;") (by decide +kernel)) (fun _ h9 => h9) rfl dX8_set_8 ?_
    refine lv_iload_n hx hb dX8_set_11 rfl (lv_at hl 3 rfl) ?_
    have hFc := va_free (wc := [(m0, .inl (cM, 8, .inr (.inr (.inr (.inr (fun _ => none))))))]) hD hS hA [0] rfl
    refine va_callq (va_runS (As := [.ref m0, .int p1]) (rest := []) ⟨hx, hb, hml, hown, hts⟩ (c_X8_makeOf l dC dI m0 p1 cM H.size) (cwS 2 hts gp_X8_set_X8_makeOf_136 rfl rfl rfl (by decide +kernel) ⟨Nat.le_of_ble_eq_true rfl, Nat.le_of_ble_eq_true rfl⟩) ⟨Pr.blind _, fun U hU hW => ⟨rfl, Pr.at (hP.sub (ws' := [(m0, .inl (cM, 8, .inr (.inr (.inr (.inr (fun _ => none))))))]) [0] rfl) (hK.sub (tys' := [(cM, .object RX1)]) [0] rfl) (hD.sub (ws' := [(m0, .inl (cM, 8, .inr (.inr (.inr (.inr (fun _ => none))))))]) [0] (by decide) rfl) hN hZ hS hFc hU hW⟩⟩ rfl rfl hl.1 rfl (lv_room (Nat.le_of_ble_eq_true rfl)) dX8_set_12 ⟨Nat.le_of_ble_eq_true rfl, Nat.le_of_ble_eq_true rfl⟩) hS (fun q _ h => hFc q h) hFc (fun r_10 u t H1 locs ht hvm hw_11 hB hz1 hk1 hS => ?_)
    obtain ⟨hP, hD, hK⟩ := Bq.join (wr := [(h0, .inr (10, [.ref t0, .ref r0, .ref m0, .ref x0, v4, v5, v6, v7, v8, .int 0, .int (-1), .int 0])), (r0, .inl (cR, 4, .inr (.inr (.inr (.inr fR)))))]) hB ht hvm hP hD [0] [1, 2] rfl rfl (by decide) (by decide) hk1 hFc hK
    generalize H1 = H at hP hS ⊢
    have hP : va_P (dC, dI) vwCl [(h0, .inr (10, [.ref t0, .ref r0, .ref m0, .ref x0, v4, v5, v6, v7, v8, .int 0, .int (-1), .int 0])), (r0, .inl (cR, 4, .inr (.inr (.inr (.inr fR))))), (m0, .inl (cM, 8, .inr (.inr (.inr (.inr (fun _ => none))))))] H := hP
    have hD : va_D A [(h0, .inr (10, [.ref t0, .ref r0, .ref m0, .ref x0, v4, v5, v6, v7, v8, .int 0, .int (-1), .int 0])), (r0, .inl (cR, 4, .inr (.inr (.inr (.inr fR))))), (m0, .inl (cM, 8, .inr (.inr (.inr (.inr (fun _ => none))))))] := hD
    have hK : va_K (dC, dI) vwCl [(cM, .object RX1), (cR, .object RX5)] s := hK
    try dsimp only at hw_11
    have k_12 := hw_11
    subst k_12
    refine W.eq (g2 := F0 m 15 ls [.null]) rfl ?_
    refine lv_astoreN (lv' := [(7, .null), (6, .ref a_3), (0, .ref h0), (1, .int p0), (2, .int p1), (3, .int p2), (4, .long pl)]) hx hb dX8_set_15 hl (by decide) rfl (fun ls hl => ?_)
    refine lv_aload_n hx hb dX8_set_17 rfl (lv_at hl 2 rfl) ?_
    refine lv_iload_n hx hb dX8_set_18 rfl (lv_at hl 4 rfl) ?_
    refine lv_iload_n hx hb dX8_set_19 rfl (lv_at hl 5 rfl) ?_
    have hFc := va_free (wc := [(h0, .inr (10, [.ref t0, .ref r0, .ref m0, .ref x0, v4, v5, v6, v7, v8, .int 0, .int (-1), .int 0])), (m0, .inl (cM, 8, .inr (.inr (.inr (.inr (fun _ => none))))))]) hD hS hA [0, 2] rfl
    refine va_callq (va_runV (As := [.int p1, .int p2]) (rest := []) ⟨hx, hb, hml, hown, hts⟩ (c_X8_fieldOf l dC dI h0 t0 r0 m0 x0 (v4) (v5) (v6) (v7) (v8) cM p1 p2 H.size) (cwV 2 hts gp_X8_set_X8_fieldOf_100 rfl rfl rfl (by decide +kernel) ⟨Nat.le_of_ble_eq_true rfl, Nat.le_of_ble_eq_true rfl⟩) ⟨Pr.blind _, va_recv hK hP (ci := 10) (q0 := 0) rfl rfl, fun U hU hW => ⟨rfl, Pr.at (hP.sub (ws' := [(h0, .inr (10, [.ref t0, .ref r0, .ref m0, .ref x0, v4, v5, v6, v7, v8, .int 0, .int (-1), .int 0])), (m0, .inl (cM, 8, .inr (.inr (.inr (.inr (fun _ => none))))))]) [0, 2] rfl) (hK.sub (tys' := [(cM, .object RX1)]) [0] rfl) (hD.sub (ws' := [(h0, .inr (10, [.ref t0, .ref r0, .ref m0, .ref x0, v4, v5, v6, v7, v8, .int 0, .int (-1), .int 0])), (m0, .inl (cM, 8, .inr (.inr (.inr (.inr (fun _ => none))))))]) [0, 2] (by decide) rfl) hN hZ hS hFc hU hW⟩⟩ rfl rfl hl.1 rfl (lv_room (Nat.le_of_ble_eq_true rfl)) dX8_set_20 ⟨Nat.le_of_ble_eq_true rfl, Nat.le_of_ble_eq_true rfl⟩) hS (fun q _ h => hFc q h) hFc (fun r_13 u t H1 locs ht hvm hw_14 hB hz1 hk1 hS => ?_)
    obtain ⟨hP, hD, hK⟩ := Bq.join (wr := [(r0, .inl (cR, 4, .inr (.inr (.inr (.inr fR)))))]) hB ht hvm hP hD [0, 2] [1] rfl rfl (by decide) (by decide) hk1 hFc hK
    generalize H1 = H at hP hS ⊢
    have hP : va_P (dC, dI) vwCl [(r0, .inl (cR, 4, .inr (.inr (.inr (.inr fR))))), (h0, .inr (10, [.ref t0, .ref r0, .ref m0, .ref x0, v4, v5, v6, v7, v8, .int 0, .int (-1), .int 0])), (m0, .inl (cM, 8, .inr (.inr (.inr (.inr (fun _ => none))))))] H := hP
    have hD : va_D A [(r0, .inl (cR, 4, .inr (.inr (.inr (.inr fR))))), (h0, .inr (10, [.ref t0, .ref r0, .ref m0, .ref x0, v4, v5, v6, v7, v8, .int 0, .int (-1), .int 0])), (m0, .inl (cM, 8, .inr (.inr (.inr (.inr (fun _ => none))))))] := hD
    have hK : va_K (dC, dI) vwCl [(cM, .object RX1), (cR, .object RX5)] s := hK
    try dsimp only at hw_14
    have k_15 := hw_14
    subst k_15
    refine W.eq (g2 := F0 m 23 ls [.null]) rfl ?_
    refine lv_astoreN (lv' := [(8, .null), (7, .null), (6, .ref a_3), (0, .ref h0), (1, .int p0), (2, .int p1), (3, .int p2), (4, .long pl)]) hx hb dX8_set_23 hl (by decide) rfl (fun ls hl => ?_)
    refine lv_aload hx hb dX8_set_25 (lv_at hl 2 rfl) ?_
    refine lv_ifnull hx hb dX8_set_27 ?_
    refine lv_aloadN hx hb dX8_set_30 (lv_at hl 1 rfl) ?_
    refine lv_ifnullN (tgt := 48) hx hb dX8_set_32 (by decide) ?_
    refine lv_iconst (v := (-1)) hx hb dX8_set_48 (by decide) ?_
    have hP9 := hP.sub (ws' := []) [] rfl
    have hD9 := hD.sub (ws' := []) [] (by decide) rfl
    have hK9 := hK.sub (tys' := []) [] rfl
    exact W.iret (v := (-1)) hx hb hr (fun t ht hW => ⟨⟨(-1), (), rfl, rfl, by rw [ht]; exact hP9, va_K.moved hW.alike hK9, hD9⟩, hS.F ht⟩) hS.2.2 dX8_set_49
def wp_X8_say : List Cond := .code yX8_say cX8_say 8 (some .int) :: ([.methodLink RX8 128 yX8_recordOf, .instanceMethod yX8_recordOf, .selects RX8 yX8_recordOf yX8_recordOf, .initialized RX8, .fieldLink RX8 24 "RecordBench" "makes" "[LRecordBench$Make;", .methodLink RX8 136 yX8_makeOf, .static yX8_makeOf, .methodLink RX8 100 yX8_fieldOf, .instanceMethod yX8_fieldOf, .selects RX8 yX8_fieldOf yX8_fieldOf, .fieldLink RX8 14 "RecordBench" "tape" "LRecordBench$Row;", .methodLink RX8 83 yX5_cut, .instanceMethod yX5_cut, .selects RX5 yX5_cut yX5_cut, .initialized RX5, .code yX8_recordOf cX8_recordOf 2 (some (.object "RecordBench$Row")), .fieldLink RX8 18 "RecordBench" "records" "[LRecordBench$Row;", .code yX8_makeOf cX8_makeOf 2 (some (.object "RecordBench$Make")), .code yX8_fieldOf cX8_fieldOf 4 (some (.object "RecordBench$Field")), .code yX5_cut cX5_cut 2 (some .boolean), .fieldLink RX5 21 "RecordBench$Row" "size" "I"] ++ wsX80 ++ wsX50)
set_option maxRecDepth 20000 in
theorem gp_X8_say_X8_recordAny_128 : GoodIn wp_X8_say (wsV RX8 128 RX8 yX8_recordOf wp_X8_recordAny) := goodIn_p _ [16] rfl (by decide +kernel)
set_option maxRecDepth 20000 in
theorem gp_X8_say_X8_makeOf_136 : GoodIn wp_X8_say (wsS RX8 136 yX8_makeOf wp_X8_makeOf) := goodIn_p _ [18] rfl (by decide +kernel)
set_option maxRecDepth 20000 in
theorem gp_X8_say_X8_fieldOf_100 : GoodIn wp_X8_say (wsV RX8 100 RX8 yX8_fieldOf wp_X8_fieldOf) := goodIn_p _ [19, 18] rfl (by decide +kernel)
set_option maxRecDepth 20000 in
theorem gp_X8_say_X5_cut0_83 : GoodIn wp_X8_say (wsV RX8 83 RX5 yX5_cut wp_X5_cut0) := goodIn_p _ [20] rfl (by decide +kernel)
set_option maxHeartbeats 4000000 in
set_option maxRecDepth 100000 in
theorem c_X8_say (l : Launch) (dC : Nat → ClassId) (dI : Nat → Nat → Nat) (h0 : Nat) (t0 : Nat) (r0 : Nat) (m0 : Nat) (x0 : Nat) (v4 : Value) (v5 : Value) (v6 : Value) (v7 : Value) (v8 : Value) (cM : ClassId) (cR : ClassId) (fR : Nat → Option Nat) (tb : Nat) (p0 : Int32) (p1 : Int32) (p2 : Int32) (sz : Nat) : Met l yX8_say wp_X8_say ({ frames := 2, cells := 0, slots := 0, locals := 52 }) (va_Pc [.ref h0, .int p0, .int p1, .int p2] (Pr (dC, dI) [(cM, .object RX1), (cR, .object RX5)] [(h0, .inr (10, [.ref t0, .ref r0, .ref m0, .ref x0, v4, v5, v6, v7, v8, .int 0, .int ((-1)), .int 0])), (m0, .inl (cM, 8, .inr (.inr (.inr (.inr (fun _ => none)))))), (r0, .inl (cR, 4, .inr (.inr (.inr (.inr fR))))), (t0, .inr (7, [.ref tb, .int 0]))] sz)) (va_Qi (fun r : Int32 => (fun _ : Unit => r = -1)) (Bq (dC, dI) (fun _ : Unit => []) (fun _ : Unit => []) (va_A [(h0, .inr (10, [.ref t0, .ref r0, .ref m0, .ref x0, v4, v5, v6, v7, v8, .int 0, .int ((-1)), .int 0])), (m0, .inl (cM, 8, .inr (.inr (.inr (.inr (fun _ => none)))))), (r0, .inl (cR, 4, .inr (.inr (.inr (.inr fR))))), (t0, .inr (7, [.ref tb, .int 0]))] sz)) (va_A [(h0, .inr (10, [.ref t0, .ref r0, .ref m0, .ref x0, v4, v5, v6, v7, v8, .int 0, .int ((-1)), .int 0])), (m0, .inl (cM, 8, .inr (.inr (.inr (.inr (fun _ => none)))))), (r0, .inl (cR, 4, .inr (.inr (.inr (.inr fR))))), (t0, .inr (7, [.ref tb, .int 0]))] sz)) 0 0 (va_A [(h0, .inr (10, [.ref t0, .ref r0, .ref m0, .ref x0, v4, v5, v6, v7, v8, .int 0, .int ((-1)), .int 0])), (m0, .inl (cM, 8, .inr (.inr (.inr (.inr (fun _ => none)))))), (r0, .inl (cR, 4, .inr (.inr (.inr (.inr fR))))), (t0, .inr (7, [.ref tb, .int 0]))] sz) := by
  refine Met.ofW (cc := cX8_say) (maxL := 8) (ret := (some .int)) (by decide) rfl ?_
  intro p e s m args below meth c s₁ B hml hv
  obtain ⟨rfl, hsz, hP, hK, hD0, hN, hZ⟩ := hv
  have hx := B.exec
  have hb := B.bytes
  have hr := B.returns
  have hts := atoms_spec (ws := wp_X8_say) B.pre
  have hown : s.vm.findClass RX8 = some m.cls := findClass_of_methodNamed B.named
  have hlocks := B.notSynchronized
  have iRX8 : ∀ w ∈ u_ws RX8 TX8 12, w ∈ wp_X8_say := by decide +kernel
  subst hsz
  have hD := hD0.self (sz := s.heap.size)
  generalize hAe : va_A [(h0, .inr (10, [.ref t0, .ref r0, .ref m0, .ref x0, v4, v5, v6, v7, v8, .int 0, .int ((-1)), .int 0])), (m0, .inl (cM, 8, .inr (.inr (.inr (.inr (fun _ => none)))))), (r0, .inl (cR, 4, .inr (.inr (.inr (.inr fR))))), (t0, .inr (7, [.ref tb, .int 0]))] s.heap.size = A at hD hZ ⊢
  have hA : ∀ q : Nat, s.heap.size ≤ q → A q := fun q h => by rw [← hAe]; exact Or.inr h
  have hS : va_S A s.heap s.heap [] := va_S.rf
  have hP : va_P (dC, dI) vwCl [(h0, .inr (10, [.ref t0, .ref r0, .ref m0, .ref x0, v4, v5, v6, v7, v8, .int 0, .int ((-1)), .int 0])), (m0, .inl (cM, 8, .inr (.inr (.inr (.inr (fun _ => none)))))), (r0, .inl (cR, 4, .inr (.inr (.inr (.inr fR))))), (t0, .inr (7, [.ref tb, .int 0]))] s.heap := hP
  have hl := lv_entry ([.ref h0, .int p0, .int p1, .int p2]) (n := 8) (Nat.le_of_ble_eq_true rfl)
  rw [lg_entry_eq]
  generalize (lg_sl ([.ref h0, .int p0, .int p1, .int p2]) ++ List.replicate (8 - (lg_sl ([.ref h0, .int p0, .int p1, .int p2])).length) Slot.unset).toArray = ls at hl ⊢
  have hl : lv_has ls 8 [(0, .ref h0), (1, .int p0), (2, .int p1), (3, .int p2)] := hl
  refine lv_aload_n hx hb dX8_say_0 rfl (lv_at hl 0 rfl) ?_
  refine lv_iload_n hx hb dX8_say_1 rfl (lv_at hl 1 rfl) ?_
  have hFc := va_free (wc := [(h0, .inr (10, [.ref t0, .ref r0, .ref m0, .ref x0, v4, v5, v6, v7, v8, .int 0, .int ((-1)), .int 0])), (r0, .inl (cR, 4, .inr (.inr (.inr (.inr fR)))))]) hD hS hA [0, 2] rfl
  refine va_callq (va_runV (As := [.int p0]) (rest := []) ⟨hx, hb, hml, hown, hts⟩ (c_X8_recordAny l dC dI h0 t0 r0 m0 x0 (v4) (v5) (v6) (v7) (v8) cR fR p0 s.heap.size) (cwV 1 hts gp_X8_say_X8_recordAny_128 rfl rfl rfl (by decide +kernel) ⟨Nat.le_of_ble_eq_true rfl, Nat.le_of_ble_eq_true rfl⟩) ⟨Pr.blind _, va_recv hK hP (ci := 10) (q0 := 0) rfl rfl, fun U hU hW => ⟨rfl, Pr.at (hP.sub (ws' := [(h0, .inr (10, [.ref t0, .ref r0, .ref m0, .ref x0, v4, v5, v6, v7, v8, .int 0, .int ((-1)), .int 0])), (r0, .inl (cR, 4, .inr (.inr (.inr (.inr fR)))))]) [0, 2] rfl) (hK.sub (tys' := [(cR, .object RX5)]) [1] rfl) (hD.sub (ws' := [(h0, .inr (10, [.ref t0, .ref r0, .ref m0, .ref x0, v4, v5, v6, v7, v8, .int 0, .int ((-1)), .int 0])), (r0, .inl (cR, 4, .inr (.inr (.inr (.inr fR)))))]) [0, 2] (by decide) rfl) hN hZ hS hFc hU hW⟩⟩ rfl rfl hl.1 rfl (lv_room (Nat.le_of_ble_eq_true rfl)) dX8_say_2 ⟨Nat.le_of_ble_eq_true rfl, Nat.le_of_ble_eq_true rfl⟩) hS (fun q _ h => hFc q h) hFc (fun r_1 u t H1 locs ht hvm hw_2 hB hz1 hk1 hS => ?_)
  obtain ⟨hP, hD, hK⟩ := Bq.join (wr := [(m0, .inl (cM, 8, .inr (.inr (.inr (.inr (fun _ => none)))))), (t0, .inr (7, [.ref tb, .int 0]))]) hB ht hvm hP hD [0, 2] [1, 3] rfl rfl (by decide) (by decide) hk1 hFc hK
  generalize H1 = H at hP hS ⊢
  have hP : va_P (dC, dI) vwCl [(m0, .inl (cM, 8, .inr (.inr (.inr (.inr (fun _ => none)))))), (t0, .inr (7, [.ref tb, .int 0])), (h0, .inr (10, [.ref t0, .ref r0, .ref m0, .ref x0, v4, v5, v6, v7, v8, .int 0, .int (-1), .int 0])), (r0, .inl (cR, 4, .inr (.inr (.inr (.inr fR)))))] H := hP
  have hD : va_D A [(m0, .inl (cM, 8, .inr (.inr (.inr (.inr (fun _ => none)))))), (t0, .inr (7, [.ref tb, .int 0])), (h0, .inr (10, [.ref t0, .ref r0, .ref m0, .ref x0, v4, v5, v6, v7, v8, .int 0, .int (-1), .int 0])), (r0, .inl (cR, 4, .inr (.inr (.inr (.inr fR)))))] := hD
  have hK : va_K (dC, dI) vwCl [(cM, .object RX1), (cR, .object RX5)] s := hK
  try dsimp only at hw_2
  rcases r_1 with _ | a_3
  · refine W.eq (g2 := F0 m 5 ls [.null]) rfl ?_
    refine lv_astoreN (lv' := [(4, .null), (0, .ref h0), (1, .int p0), (2, .int p1), (3, .int p2)]) hx hb dX8_say_5 hl (by decide) rfl (fun ls hl => ?_)
    refine lv_aload_n hx hb dX8_say_7 rfl (lv_at hl 1 rfl) ?_
    refine va_get (D := (dC, dI)) (ci := 10) (v := .ref m0) (C := RX8) (T := TX8) (N := 12) hx hb hts iRX8 hown hK hP 2 rfl rfl 2 (by decide) (hts (.fieldLink RX8 24 "RecordBench" "makes" "[LRecordBench$Make;") (by decide +kernel)) (fun _ h9 => h9) rfl dX8_say_8 ?_
    refine lv_iload_n hx hb dX8_say_11 rfl (lv_at hl 3 rfl) ?_
    have hFc := va_free (wc := [(m0, .inl (cM, 8, .inr (.inr (.inr (.inr (fun _ => none))))))]) hD hS hA [0] rfl
    refine va_callq (va_runS (As := [.ref m0, .int p1]) (rest := []) ⟨hx, hb, hml, hown, hts⟩ (c_X8_makeOf l dC dI m0 p1 cM H.size) (cwS 2 hts gp_X8_say_X8_makeOf_136 rfl rfl rfl (by decide +kernel) ⟨Nat.le_of_ble_eq_true rfl, Nat.le_of_ble_eq_true rfl⟩) ⟨Pr.blind _, fun U hU hW => ⟨rfl, Pr.at (hP.sub (ws' := [(m0, .inl (cM, 8, .inr (.inr (.inr (.inr (fun _ => none))))))]) [0] rfl) (hK.sub (tys' := [(cM, .object RX1)]) [0] rfl) (hD.sub (ws' := [(m0, .inl (cM, 8, .inr (.inr (.inr (.inr (fun _ => none))))))]) [0] (by decide) rfl) hN hZ hS hFc hU hW⟩⟩ rfl rfl hl.1 rfl (lv_room (Nat.le_of_ble_eq_true rfl)) dX8_say_12 ⟨Nat.le_of_ble_eq_true rfl, Nat.le_of_ble_eq_true rfl⟩) hS (fun q _ h => hFc q h) hFc (fun r_4 u t H1 locs ht hvm hw_5 hB hz1 hk1 hS => ?_)
    obtain ⟨hP, hD, hK⟩ := Bq.join (wr := [(t0, .inr (7, [.ref tb, .int 0])), (h0, .inr (10, [.ref t0, .ref r0, .ref m0, .ref x0, v4, v5, v6, v7, v8, .int 0, .int (-1), .int 0])), (r0, .inl (cR, 4, .inr (.inr (.inr (.inr fR)))))]) hB ht hvm hP hD [0] [1, 2, 3] rfl rfl (by decide) (by decide) hk1 hFc hK
    generalize H1 = H at hP hS ⊢
    have hP : va_P (dC, dI) vwCl [(t0, .inr (7, [.ref tb, .int 0])), (h0, .inr (10, [.ref t0, .ref r0, .ref m0, .ref x0, v4, v5, v6, v7, v8, .int 0, .int (-1), .int 0])), (r0, .inl (cR, 4, .inr (.inr (.inr (.inr fR))))), (m0, .inl (cM, 8, .inr (.inr (.inr (.inr (fun _ => none))))))] H := hP
    have hD : va_D A [(t0, .inr (7, [.ref tb, .int 0])), (h0, .inr (10, [.ref t0, .ref r0, .ref m0, .ref x0, v4, v5, v6, v7, v8, .int 0, .int (-1), .int 0])), (r0, .inl (cR, 4, .inr (.inr (.inr (.inr fR))))), (m0, .inl (cM, 8, .inr (.inr (.inr (.inr (fun _ => none))))))] := hD
    have hK : va_K (dC, dI) vwCl [(cM, .object RX1), (cR, .object RX5)] s := hK
    try dsimp only at hw_5
    have k_6 := hw_5
    subst k_6
    refine W.eq (g2 := F0 m 15 ls [.null]) rfl ?_
    refine lv_astoreN (lv' := [(5, .null), (4, .null), (0, .ref h0), (1, .int p0), (2, .int p1), (3, .int p2)]) hx hb dX8_say_15 hl (by decide) rfl (fun ls hl => ?_)
    refine lv_aload_n hx hb dX8_say_17 rfl (lv_at hl 2 rfl) ?_
    refine lv_iload_n hx hb dX8_say_18 rfl (lv_at hl 4 rfl) ?_
    refine lv_iload_n hx hb dX8_say_19 rfl (lv_at hl 5 rfl) ?_
    have hFc := va_free (wc := [(h0, .inr (10, [.ref t0, .ref r0, .ref m0, .ref x0, v4, v5, v6, v7, v8, .int 0, .int (-1), .int 0])), (m0, .inl (cM, 8, .inr (.inr (.inr (.inr (fun _ => none))))))]) hD hS hA [1, 3] rfl
    refine va_callq (va_runV (As := [.int p1, .int p2]) (rest := []) ⟨hx, hb, hml, hown, hts⟩ (c_X8_fieldOf l dC dI h0 t0 r0 m0 x0 (v4) (v5) (v6) (v7) (v8) cM p1 p2 H.size) (cwV 2 hts gp_X8_say_X8_fieldOf_100 rfl rfl rfl (by decide +kernel) ⟨Nat.le_of_ble_eq_true rfl, Nat.le_of_ble_eq_true rfl⟩) ⟨Pr.blind _, va_recv hK hP (ci := 10) (q0 := 1) rfl rfl, fun U hU hW => ⟨rfl, Pr.at (hP.sub (ws' := [(h0, .inr (10, [.ref t0, .ref r0, .ref m0, .ref x0, v4, v5, v6, v7, v8, .int 0, .int (-1), .int 0])), (m0, .inl (cM, 8, .inr (.inr (.inr (.inr (fun _ => none))))))]) [1, 3] rfl) (hK.sub (tys' := [(cM, .object RX1)]) [0] rfl) (hD.sub (ws' := [(h0, .inr (10, [.ref t0, .ref r0, .ref m0, .ref x0, v4, v5, v6, v7, v8, .int 0, .int (-1), .int 0])), (m0, .inl (cM, 8, .inr (.inr (.inr (.inr (fun _ => none))))))]) [1, 3] (by decide) rfl) hN hZ hS hFc hU hW⟩⟩ rfl rfl hl.1 rfl (lv_room (Nat.le_of_ble_eq_true rfl)) dX8_say_20 ⟨Nat.le_of_ble_eq_true rfl, Nat.le_of_ble_eq_true rfl⟩) hS (fun q _ h => hFc q h) hFc (fun r_7 u t H1 locs ht hvm hw_8 hB hz1 hk1 hS => ?_)
    obtain ⟨hP, hD, hK⟩ := Bq.join (wr := [(t0, .inr (7, [.ref tb, .int 0])), (r0, .inl (cR, 4, .inr (.inr (.inr (.inr fR)))))]) hB ht hvm hP hD [1, 3] [0, 2] rfl rfl (by decide) (by decide) hk1 hFc hK
    generalize H1 = H at hP hS ⊢
    have hP : va_P (dC, dI) vwCl [(t0, .inr (7, [.ref tb, .int 0])), (r0, .inl (cR, 4, .inr (.inr (.inr (.inr fR))))), (h0, .inr (10, [.ref t0, .ref r0, .ref m0, .ref x0, v4, v5, v6, v7, v8, .int 0, .int (-1), .int 0])), (m0, .inl (cM, 8, .inr (.inr (.inr (.inr (fun _ => none))))))] H := hP
    have hD : va_D A [(t0, .inr (7, [.ref tb, .int 0])), (r0, .inl (cR, 4, .inr (.inr (.inr (.inr fR))))), (h0, .inr (10, [.ref t0, .ref r0, .ref m0, .ref x0, v4, v5, v6, v7, v8, .int 0, .int (-1), .int 0])), (m0, .inl (cM, 8, .inr (.inr (.inr (.inr (fun _ => none))))))] := hD
    have hK : va_K (dC, dI) vwCl [(cM, .object RX1), (cR, .object RX5)] s := hK
    try dsimp only at hw_8
    have k_9 := hw_8
    subst k_9
    refine W.eq (g2 := F0 m 23 ls [.null]) rfl ?_
    refine lv_astoreN (lv' := [(6, .null), (5, .null), (4, .null), (0, .ref h0), (1, .int p0), (2, .int p1), (3, .int p2)]) hx hb dX8_say_23 hl (by decide) rfl (fun ls hl => ?_)
    refine lv_aloadN hx hb dX8_say_25 (lv_at hl 2 rfl) ?_
    refine lv_ifnullN (tgt := 49) hx hb dX8_say_27 (by decide) ?_
    refine lv_iconst (v := (-1)) hx hb dX8_say_49 (by decide) ?_
    refine lv_istore (lv' := [(7, .int ((-1))), (6, .null), (5, .null), (4, .null), (0, .ref h0), (1, .int p0), (2, .int p1), (3, .int p2)]) hx hb dX8_say_50 hl (by decide) rfl (fun ls hl => ?_)
    refine lv_goto (tgt := 169) hx hb dX8_say_52 (by decide) ?_
    refine lv_aload_n hx hb dX8_say_169 rfl (lv_at hl 4 rfl) ?_
    refine va_get (D := (dC, dI)) (ci := 10) (v := .ref t0) (C := RX8) (T := TX8) (N := 12) hx hb hts iRX8 hown hK hP 2 rfl rfl 0 (by decide) (hts (.fieldLink RX8 14 "RecordBench" "tape" "LRecordBench$Row;") (by decide +kernel)) (fun _ h9 => h9) rfl dX8_say_170 ?_
    refine lv_iconst (v := 0) hx hb dX8_say_173 (by decide) ?_
    have hFc := va_free (wc := [(t0, .inr (7, [.ref tb, .int 0]))]) hD hS hA [0] rfl
    refine va_calli (va_runV (As := [.int 0]) (rest := []) ⟨hx, hb, hml, hown, hts⟩ (c_X5_cut0 l dC dI t0 tb H.size) (cwV 1 hts gp_X8_say_X5_cut0_83 rfl rfl rfl (by decide +kernel) ⟨Nat.le_of_ble_eq_true rfl, Nat.le_of_ble_eq_true rfl⟩) ⟨Pr.blind _, va_recv hK hP (ci := 7) (q0 := 0) rfl rfl, fun U hU hW => ⟨rfl, Pr.at (hP.sub (ws' := [(t0, .inr (7, [.ref tb, .int 0]))]) [0] rfl) (hK.sub (tys' := []) [] rfl) (hD.sub (ws' := [(t0, .inr (7, [.ref tb, .int 0]))]) [0] (by decide) rfl) hN hZ hS hFc hU hW⟩⟩ rfl rfl hl.1 rfl (lv_room (Nat.le_of_ble_eq_true rfl)) dX8_say_174 ⟨Nat.le_of_ble_eq_true rfl, Nat.le_of_ble_eq_true rfl⟩) hS (fun q _ h => hFc q h) hFc (fun r_10 u t H1 locs ht hvm hw_11 hB hz1 hk1 hS => ?_)
    obtain ⟨hP, hD, hK⟩ := Bq.join (wr := [(r0, .inl (cR, 4, .inr (.inr (.inr (.inr fR))))), (h0, .inr (10, [.ref t0, .ref r0, .ref m0, .ref x0, v4, v5, v6, v7, v8, .int 0, .int (-1), .int 0])), (m0, .inl (cM, 8, .inr (.inr (.inr (.inr (fun _ => none))))))]) hB ht hvm hP hD [0] [1, 2, 3] rfl rfl (by decide) (by decide) hk1 hFc hK
    generalize H1 = H at hP hS ⊢
    have hP : va_P (dC, dI) vwCl [(r0, .inl (cR, 4, .inr (.inr (.inr (.inr fR))))), (h0, .inr (10, [.ref t0, .ref r0, .ref m0, .ref x0, v4, v5, v6, v7, v8, .int 0, .int (-1), .int 0])), (m0, .inl (cM, 8, .inr (.inr (.inr (.inr (fun _ => none)))))), (t0, .inr (7, [.ref tb, .int 0]))] H := hP
    have hD : va_D A [(r0, .inl (cR, 4, .inr (.inr (.inr (.inr fR))))), (h0, .inr (10, [.ref t0, .ref r0, .ref m0, .ref x0, v4, v5, v6, v7, v8, .int 0, .int (-1), .int 0])), (m0, .inl (cM, 8, .inr (.inr (.inr (.inr (fun _ => none)))))), (t0, .inr (7, [.ref tb, .int 0]))] := hD
    have hK : va_K (dC, dI) vwCl [(cM, .object RX1), (cR, .object RX5)] s := hK
    try dsimp only at hw_11
    have k_12 := hw_11
    refine W_toi (y := 1) k_12 ?_
    refine lv_pop hx hb dX8_say_177 rfl ?_
    refine lv_iload hx hb dX8_say_178 (lv_at hl 0 rfl) ?_
    have hP9 := hP.sub (ws' := []) [] rfl
    have hD9 := hD.sub (ws' := []) [] (by decide) rfl
    have hK9 := hK.sub (tys' := []) [] rfl
    exact W.iret (v := (-1)) hx hb hr (fun t ht hW => ⟨⟨(-1), (), rfl, rfl, by rw [ht]; exact hP9, va_K.moved hW.alike hK9, hD9⟩, hS.F ht⟩) hS.2.2 dX8_say_180
  · refine W.eq (g2 := F0 m 5 ls [.ref a_3]) rfl ?_
    refine lv_astore (lv' := [(4, .ref a_3), (0, .ref h0), (1, .int p0), (2, .int p1), (3, .int p2)]) hx hb dX8_say_5 hl (by decide) rfl (fun ls hl => ?_)
    refine lv_aload_n hx hb dX8_say_7 rfl (lv_at hl 1 rfl) ?_
    refine va_get (D := (dC, dI)) (ci := 10) (v := .ref m0) (C := RX8) (T := TX8) (N := 12) hx hb hts iRX8 hown hK hP 2 rfl rfl 2 (by decide) (hts (.fieldLink RX8 24 "RecordBench" "makes" "[LRecordBench$Make;") (by decide +kernel)) (fun _ h9 => h9) rfl dX8_say_8 ?_
    refine lv_iload_n hx hb dX8_say_11 rfl (lv_at hl 3 rfl) ?_
    have hFc := va_free (wc := [(m0, .inl (cM, 8, .inr (.inr (.inr (.inr (fun _ => none))))))]) hD hS hA [0] rfl
    refine va_callq (va_runS (As := [.ref m0, .int p1]) (rest := []) ⟨hx, hb, hml, hown, hts⟩ (c_X8_makeOf l dC dI m0 p1 cM H.size) (cwS 2 hts gp_X8_say_X8_makeOf_136 rfl rfl rfl (by decide +kernel) ⟨Nat.le_of_ble_eq_true rfl, Nat.le_of_ble_eq_true rfl⟩) ⟨Pr.blind _, fun U hU hW => ⟨rfl, Pr.at (hP.sub (ws' := [(m0, .inl (cM, 8, .inr (.inr (.inr (.inr (fun _ => none))))))]) [0] rfl) (hK.sub (tys' := [(cM, .object RX1)]) [0] rfl) (hD.sub (ws' := [(m0, .inl (cM, 8, .inr (.inr (.inr (.inr (fun _ => none))))))]) [0] (by decide) rfl) hN hZ hS hFc hU hW⟩⟩ rfl rfl hl.1 rfl (lv_room (Nat.le_of_ble_eq_true rfl)) dX8_say_12 ⟨Nat.le_of_ble_eq_true rfl, Nat.le_of_ble_eq_true rfl⟩) hS (fun q _ h => hFc q h) hFc (fun r_13 u t H1 locs ht hvm hw_14 hB hz1 hk1 hS => ?_)
    obtain ⟨hP, hD, hK⟩ := Bq.join (wr := [(t0, .inr (7, [.ref tb, .int 0])), (h0, .inr (10, [.ref t0, .ref r0, .ref m0, .ref x0, v4, v5, v6, v7, v8, .int 0, .int (-1), .int 0])), (r0, .inl (cR, 4, .inr (.inr (.inr (.inr fR)))))]) hB ht hvm hP hD [0] [1, 2, 3] rfl rfl (by decide) (by decide) hk1 hFc hK
    generalize H1 = H at hP hS ⊢
    have hP : va_P (dC, dI) vwCl [(t0, .inr (7, [.ref tb, .int 0])), (h0, .inr (10, [.ref t0, .ref r0, .ref m0, .ref x0, v4, v5, v6, v7, v8, .int 0, .int (-1), .int 0])), (r0, .inl (cR, 4, .inr (.inr (.inr (.inr fR))))), (m0, .inl (cM, 8, .inr (.inr (.inr (.inr (fun _ => none))))))] H := hP
    have hD : va_D A [(t0, .inr (7, [.ref tb, .int 0])), (h0, .inr (10, [.ref t0, .ref r0, .ref m0, .ref x0, v4, v5, v6, v7, v8, .int 0, .int (-1), .int 0])), (r0, .inl (cR, 4, .inr (.inr (.inr (.inr fR))))), (m0, .inl (cM, 8, .inr (.inr (.inr (.inr (fun _ => none))))))] := hD
    have hK : va_K (dC, dI) vwCl [(cM, .object RX1), (cR, .object RX5)] s := hK
    try dsimp only at hw_14
    have k_15 := hw_14
    subst k_15
    refine W.eq (g2 := F0 m 15 ls [.null]) rfl ?_
    refine lv_astoreN (lv' := [(5, .null), (4, .ref a_3), (0, .ref h0), (1, .int p0), (2, .int p1), (3, .int p2)]) hx hb dX8_say_15 hl (by decide) rfl (fun ls hl => ?_)
    refine lv_aload_n hx hb dX8_say_17 rfl (lv_at hl 2 rfl) ?_
    refine lv_iload_n hx hb dX8_say_18 rfl (lv_at hl 4 rfl) ?_
    refine lv_iload_n hx hb dX8_say_19 rfl (lv_at hl 5 rfl) ?_
    have hFc := va_free (wc := [(h0, .inr (10, [.ref t0, .ref r0, .ref m0, .ref x0, v4, v5, v6, v7, v8, .int 0, .int (-1), .int 0])), (m0, .inl (cM, 8, .inr (.inr (.inr (.inr (fun _ => none))))))]) hD hS hA [1, 3] rfl
    refine va_callq (va_runV (As := [.int p1, .int p2]) (rest := []) ⟨hx, hb, hml, hown, hts⟩ (c_X8_fieldOf l dC dI h0 t0 r0 m0 x0 (v4) (v5) (v6) (v7) (v8) cM p1 p2 H.size) (cwV 2 hts gp_X8_say_X8_fieldOf_100 rfl rfl rfl (by decide +kernel) ⟨Nat.le_of_ble_eq_true rfl, Nat.le_of_ble_eq_true rfl⟩) ⟨Pr.blind _, va_recv hK hP (ci := 10) (q0 := 1) rfl rfl, fun U hU hW => ⟨rfl, Pr.at (hP.sub (ws' := [(h0, .inr (10, [.ref t0, .ref r0, .ref m0, .ref x0, v4, v5, v6, v7, v8, .int 0, .int (-1), .int 0])), (m0, .inl (cM, 8, .inr (.inr (.inr (.inr (fun _ => none))))))]) [1, 3] rfl) (hK.sub (tys' := [(cM, .object RX1)]) [0] rfl) (hD.sub (ws' := [(h0, .inr (10, [.ref t0, .ref r0, .ref m0, .ref x0, v4, v5, v6, v7, v8, .int 0, .int (-1), .int 0])), (m0, .inl (cM, 8, .inr (.inr (.inr (.inr (fun _ => none))))))]) [1, 3] (by decide) rfl) hN hZ hS hFc hU hW⟩⟩ rfl rfl hl.1 rfl (lv_room (Nat.le_of_ble_eq_true rfl)) dX8_say_20 ⟨Nat.le_of_ble_eq_true rfl, Nat.le_of_ble_eq_true rfl⟩) hS (fun q _ h => hFc q h) hFc (fun r_16 u t H1 locs ht hvm hw_17 hB hz1 hk1 hS => ?_)
    obtain ⟨hP, hD, hK⟩ := Bq.join (wr := [(t0, .inr (7, [.ref tb, .int 0])), (r0, .inl (cR, 4, .inr (.inr (.inr (.inr fR)))))]) hB ht hvm hP hD [1, 3] [0, 2] rfl rfl (by decide) (by decide) hk1 hFc hK
    generalize H1 = H at hP hS ⊢
    have hP : va_P (dC, dI) vwCl [(t0, .inr (7, [.ref tb, .int 0])), (r0, .inl (cR, 4, .inr (.inr (.inr (.inr fR))))), (h0, .inr (10, [.ref t0, .ref r0, .ref m0, .ref x0, v4, v5, v6, v7, v8, .int 0, .int (-1), .int 0])), (m0, .inl (cM, 8, .inr (.inr (.inr (.inr (fun _ => none))))))] H := hP
    have hD : va_D A [(t0, .inr (7, [.ref tb, .int 0])), (r0, .inl (cR, 4, .inr (.inr (.inr (.inr fR))))), (h0, .inr (10, [.ref t0, .ref r0, .ref m0, .ref x0, v4, v5, v6, v7, v8, .int 0, .int (-1), .int 0])), (m0, .inl (cM, 8, .inr (.inr (.inr (.inr (fun _ => none))))))] := hD
    have hK : va_K (dC, dI) vwCl [(cM, .object RX1), (cR, .object RX5)] s := hK
    try dsimp only at hw_17
    have k_18 := hw_17
    subst k_18
    refine W.eq (g2 := F0 m 23 ls [.null]) rfl ?_
    refine lv_astoreN (lv' := [(6, .null), (5, .null), (4, .ref a_3), (0, .ref h0), (1, .int p0), (2, .int p1), (3, .int p2)]) hx hb dX8_say_23 hl (by decide) rfl (fun ls hl => ?_)
    refine lv_aload hx hb dX8_say_25 (lv_at hl 2 rfl) ?_
    refine lv_ifnull hx hb dX8_say_27 ?_
    refine lv_aloadN hx hb dX8_say_30 (lv_at hl 1 rfl) ?_
    refine lv_ifnullN (tgt := 49) hx hb dX8_say_32 (by decide) ?_
    refine lv_iconst (v := (-1)) hx hb dX8_say_49 (by decide) ?_
    refine lv_istore (lv' := [(7, .int ((-1))), (6, .null), (5, .null), (4, .ref a_3), (0, .ref h0), (1, .int p0), (2, .int p1), (3, .int p2)]) hx hb dX8_say_50 hl (by decide) rfl (fun ls hl => ?_)
    refine lv_goto (tgt := 169) hx hb dX8_say_52 (by decide) ?_
    refine lv_aload_n hx hb dX8_say_169 rfl (lv_at hl 4 rfl) ?_
    refine va_get (D := (dC, dI)) (ci := 10) (v := .ref t0) (C := RX8) (T := TX8) (N := 12) hx hb hts iRX8 hown hK hP 2 rfl rfl 0 (by decide) (hts (.fieldLink RX8 14 "RecordBench" "tape" "LRecordBench$Row;") (by decide +kernel)) (fun _ h9 => h9) rfl dX8_say_170 ?_
    refine lv_iconst (v := 0) hx hb dX8_say_173 (by decide) ?_
    have hFc := va_free (wc := [(t0, .inr (7, [.ref tb, .int 0]))]) hD hS hA [0] rfl
    refine va_calli (va_runV (As := [.int 0]) (rest := []) ⟨hx, hb, hml, hown, hts⟩ (c_X5_cut0 l dC dI t0 tb H.size) (cwV 1 hts gp_X8_say_X5_cut0_83 rfl rfl rfl (by decide +kernel) ⟨Nat.le_of_ble_eq_true rfl, Nat.le_of_ble_eq_true rfl⟩) ⟨Pr.blind _, va_recv hK hP (ci := 7) (q0 := 0) rfl rfl, fun U hU hW => ⟨rfl, Pr.at (hP.sub (ws' := [(t0, .inr (7, [.ref tb, .int 0]))]) [0] rfl) (hK.sub (tys' := []) [] rfl) (hD.sub (ws' := [(t0, .inr (7, [.ref tb, .int 0]))]) [0] (by decide) rfl) hN hZ hS hFc hU hW⟩⟩ rfl rfl hl.1 rfl (lv_room (Nat.le_of_ble_eq_true rfl)) dX8_say_174 ⟨Nat.le_of_ble_eq_true rfl, Nat.le_of_ble_eq_true rfl⟩) hS (fun q _ h => hFc q h) hFc (fun r_19 u t H1 locs ht hvm hw_20 hB hz1 hk1 hS => ?_)
    obtain ⟨hP, hD, hK⟩ := Bq.join (wr := [(r0, .inl (cR, 4, .inr (.inr (.inr (.inr fR))))), (h0, .inr (10, [.ref t0, .ref r0, .ref m0, .ref x0, v4, v5, v6, v7, v8, .int 0, .int (-1), .int 0])), (m0, .inl (cM, 8, .inr (.inr (.inr (.inr (fun _ => none))))))]) hB ht hvm hP hD [0] [1, 2, 3] rfl rfl (by decide) (by decide) hk1 hFc hK
    generalize H1 = H at hP hS ⊢
    have hP : va_P (dC, dI) vwCl [(r0, .inl (cR, 4, .inr (.inr (.inr (.inr fR))))), (h0, .inr (10, [.ref t0, .ref r0, .ref m0, .ref x0, v4, v5, v6, v7, v8, .int 0, .int (-1), .int 0])), (m0, .inl (cM, 8, .inr (.inr (.inr (.inr (fun _ => none)))))), (t0, .inr (7, [.ref tb, .int 0]))] H := hP
    have hD : va_D A [(r0, .inl (cR, 4, .inr (.inr (.inr (.inr fR))))), (h0, .inr (10, [.ref t0, .ref r0, .ref m0, .ref x0, v4, v5, v6, v7, v8, .int 0, .int (-1), .int 0])), (m0, .inl (cM, 8, .inr (.inr (.inr (.inr (fun _ => none)))))), (t0, .inr (7, [.ref tb, .int 0]))] := hD
    have hK : va_K (dC, dI) vwCl [(cM, .object RX1), (cR, .object RX5)] s := hK
    try dsimp only at hw_20
    have k_21 := hw_20
    refine W_toi (y := 1) k_21 ?_
    refine lv_pop hx hb dX8_say_177 rfl ?_
    refine lv_iload hx hb dX8_say_178 (lv_at hl 0 rfl) ?_
    have hP9 := hP.sub (ws' := []) [] rfl
    have hD9 := hD.sub (ws' := []) [] (by decide) rfl
    have hK9 := hK.sub (tys' := []) [] rfl
    exact W.iret (v := (-1)) hx hb hr (fun t ht hW => ⟨⟨(-1), (), rfl, rfl, by rw [ht]; exact hP9, va_K.moved hW.alike hK9, hD9⟩, hS.F ht⟩) hS.2.2 dX8_say_180
def wp_X8_nest : List Cond := .code yX8_nest cX8_nest 10 (some .int) :: ([.methodLink RX8 128 yX8_recordOf, .instanceMethod yX8_recordOf, .selects RX8 yX8_recordOf yX8_recordOf, .initialized RX8, .fieldLink RX8 24 "RecordBench" "makes" "[LRecordBench$Make;", .methodLink RX8 136 yX8_makeOf, .static yX8_makeOf, .methodLink RX8 100 yX8_fieldOf, .instanceMethod yX8_fieldOf, .selects RX8 yX8_fieldOf yX8_fieldOf, .code yX8_recordOf cX8_recordOf 2 (some (.object "RecordBench$Row")), .fieldLink RX8 18 "RecordBench" "records" "[LRecordBench$Row;", .code yX8_makeOf cX8_makeOf 2 (some (.object "RecordBench$Make")), .code yX8_fieldOf cX8_fieldOf 4 (some (.object "RecordBench$Field"))] ++ wsX80)
set_option maxRecDepth 20000 in
theorem gp_X8_nest_X8_recordAny_128 : GoodIn wp_X8_nest (wsV RX8 128 RX8 yX8_recordOf wp_X8_recordAny) := goodIn_p _ [11] rfl (by decide +kernel)
set_option maxRecDepth 20000 in
theorem gp_X8_nest_X8_makeOf_136 : GoodIn wp_X8_nest (wsS RX8 136 yX8_makeOf wp_X8_makeOf) := goodIn_p _ [13] rfl (by decide +kernel)
set_option maxRecDepth 20000 in
theorem gp_X8_nest_X8_fieldOf_100 : GoodIn wp_X8_nest (wsV RX8 100 RX8 yX8_fieldOf wp_X8_fieldOf) := goodIn_p _ [14, 13] rfl (by decide +kernel)
set_option maxHeartbeats 4000000 in
set_option maxRecDepth 100000 in
theorem c_X8_nest (l : Launch) (dC : Nat → ClassId) (dI : Nat → Nat → Nat) (h0 : Nat) (t0 : Nat) (r0 : Nat) (m0 : Nat) (x0 : Nat) (v4 : Value) (v5 : Value) (v6 : Value) (v7 : Value) (v8 : Value) (cM : ClassId) (cR : ClassId) (fR : Nat → Option Nat) (p0 : Int32) (p1 : Int32) (p2 : Int32) (p3 : Int32) (sz : Nat) : Met l yX8_nest wp_X8_nest ({ frames := 2, cells := 0, slots := 0, locals := 52 }) (va_Pc [.ref h0, .int p0, .int p1, .int p2, .int p3] (Pr (dC, dI) [(cM, .object RX1), (cR, .object RX5)] [(h0, .inr (10, [.ref t0, .ref r0, .ref m0, .ref x0, v4, v5, v6, v7, v8, .int 0, .int ((-1)), .int 0])), (m0, .inl (cM, 8, .inr (.inr (.inr (.inr (fun _ => none)))))), (r0, .inl (cR, 4, .inr (.inr (.inr (.inr fR)))))] sz)) (va_Qi (fun r : Int32 => (fun _ : Unit => r = -1)) (Bq (dC, dI) (fun _ : Unit => []) (fun _ : Unit => []) (va_A [(h0, .inr (10, [.ref t0, .ref r0, .ref m0, .ref x0, v4, v5, v6, v7, v8, .int 0, .int ((-1)), .int 0])), (m0, .inl (cM, 8, .inr (.inr (.inr (.inr (fun _ => none)))))), (r0, .inl (cR, 4, .inr (.inr (.inr (.inr fR)))))] sz)) (va_A [(h0, .inr (10, [.ref t0, .ref r0, .ref m0, .ref x0, v4, v5, v6, v7, v8, .int 0, .int ((-1)), .int 0])), (m0, .inl (cM, 8, .inr (.inr (.inr (.inr (fun _ => none)))))), (r0, .inl (cR, 4, .inr (.inr (.inr (.inr fR)))))] sz)) 0 0 (va_A [(h0, .inr (10, [.ref t0, .ref r0, .ref m0, .ref x0, v4, v5, v6, v7, v8, .int 0, .int ((-1)), .int 0])), (m0, .inl (cM, 8, .inr (.inr (.inr (.inr (fun _ => none)))))), (r0, .inl (cR, 4, .inr (.inr (.inr (.inr fR)))))] sz) := by
  refine Met.ofW (cc := cX8_nest) (maxL := 10) (ret := (some .int)) (by decide) rfl ?_
  intro p e s m args below meth c s₁ B hml hv
  obtain ⟨rfl, hsz, hP, hK, hD0, hN, hZ⟩ := hv
  have hx := B.exec
  have hb := B.bytes
  have hr := B.returns
  have hts := atoms_spec (ws := wp_X8_nest) B.pre
  have hown : s.vm.findClass RX8 = some m.cls := findClass_of_methodNamed B.named
  have hlocks := B.notSynchronized
  have iRX8 : ∀ w ∈ u_ws RX8 TX8 12, w ∈ wp_X8_nest := by decide +kernel
  subst hsz
  have hD := hD0.self (sz := s.heap.size)
  generalize hAe : va_A [(h0, .inr (10, [.ref t0, .ref r0, .ref m0, .ref x0, v4, v5, v6, v7, v8, .int 0, .int ((-1)), .int 0])), (m0, .inl (cM, 8, .inr (.inr (.inr (.inr (fun _ => none)))))), (r0, .inl (cR, 4, .inr (.inr (.inr (.inr fR)))))] s.heap.size = A at hD hZ ⊢
  have hA : ∀ q : Nat, s.heap.size ≤ q → A q := fun q h => by rw [← hAe]; exact Or.inr h
  have hS : va_S A s.heap s.heap [] := va_S.rf
  have hP : va_P (dC, dI) vwCl [(h0, .inr (10, [.ref t0, .ref r0, .ref m0, .ref x0, v4, v5, v6, v7, v8, .int 0, .int ((-1)), .int 0])), (m0, .inl (cM, 8, .inr (.inr (.inr (.inr (fun _ => none)))))), (r0, .inl (cR, 4, .inr (.inr (.inr (.inr fR)))))] s.heap := hP
  have hl := lv_entry ([.ref h0, .int p0, .int p1, .int p2, .int p3]) (n := 10) (Nat.le_of_ble_eq_true rfl)
  rw [lg_entry_eq]
  generalize (lg_sl ([.ref h0, .int p0, .int p1, .int p2, .int p3]) ++ List.replicate (10 - (lg_sl ([.ref h0, .int p0, .int p1, .int p2, .int p3])).length) Slot.unset).toArray = ls at hl ⊢
  have hl : lv_has ls 10 [(0, .ref h0), (1, .int p0), (2, .int p1), (3, .int p2), (4, .int p3)] := hl
  refine lv_aload_n hx hb dX8_nest_0 rfl (lv_at hl 0 rfl) ?_
  refine lv_iload_n hx hb dX8_nest_1 rfl (lv_at hl 1 rfl) ?_
  have hFc := va_free (wc := [(h0, .inr (10, [.ref t0, .ref r0, .ref m0, .ref x0, v4, v5, v6, v7, v8, .int 0, .int ((-1)), .int 0])), (r0, .inl (cR, 4, .inr (.inr (.inr (.inr fR)))))]) hD hS hA [0, 2] rfl
  refine va_callq (va_runV (As := [.int p0]) (rest := []) ⟨hx, hb, hml, hown, hts⟩ (c_X8_recordAny l dC dI h0 t0 r0 m0 x0 (v4) (v5) (v6) (v7) (v8) cR fR p0 s.heap.size) (cwV 1 hts gp_X8_nest_X8_recordAny_128 rfl rfl rfl (by decide +kernel) ⟨Nat.le_of_ble_eq_true rfl, Nat.le_of_ble_eq_true rfl⟩) ⟨Pr.blind _, va_recv hK hP (ci := 10) (q0 := 0) rfl rfl, fun U hU hW => ⟨rfl, Pr.at (hP.sub (ws' := [(h0, .inr (10, [.ref t0, .ref r0, .ref m0, .ref x0, v4, v5, v6, v7, v8, .int 0, .int ((-1)), .int 0])), (r0, .inl (cR, 4, .inr (.inr (.inr (.inr fR)))))]) [0, 2] rfl) (hK.sub (tys' := [(cR, .object RX5)]) [1] rfl) (hD.sub (ws' := [(h0, .inr (10, [.ref t0, .ref r0, .ref m0, .ref x0, v4, v5, v6, v7, v8, .int 0, .int ((-1)), .int 0])), (r0, .inl (cR, 4, .inr (.inr (.inr (.inr fR)))))]) [0, 2] (by decide) rfl) hN hZ hS hFc hU hW⟩⟩ rfl rfl hl.1 rfl (lv_room (Nat.le_of_ble_eq_true rfl)) dX8_nest_2 ⟨Nat.le_of_ble_eq_true rfl, Nat.le_of_ble_eq_true rfl⟩) hS (fun q _ h => hFc q h) hFc (fun r_1 u t H1 locs ht hvm hw_2 hB hz1 hk1 hS => ?_)
  obtain ⟨hP, hD, hK⟩ := Bq.join (wr := [(m0, .inl (cM, 8, .inr (.inr (.inr (.inr (fun _ => none))))))]) hB ht hvm hP hD [0, 2] [1] rfl rfl (by decide) (by decide) hk1 hFc hK
  generalize H1 = H at hP hS ⊢
  have hP : va_P (dC, dI) vwCl [(m0, .inl (cM, 8, .inr (.inr (.inr (.inr (fun _ => none)))))), (h0, .inr (10, [.ref t0, .ref r0, .ref m0, .ref x0, v4, v5, v6, v7, v8, .int 0, .int (-1), .int 0])), (r0, .inl (cR, 4, .inr (.inr (.inr (.inr fR)))))] H := hP
  have hD : va_D A [(m0, .inl (cM, 8, .inr (.inr (.inr (.inr (fun _ => none)))))), (h0, .inr (10, [.ref t0, .ref r0, .ref m0, .ref x0, v4, v5, v6, v7, v8, .int 0, .int (-1), .int 0])), (r0, .inl (cR, 4, .inr (.inr (.inr (.inr fR)))))] := hD
  have hK : va_K (dC, dI) vwCl [(cM, .object RX1), (cR, .object RX5)] s := hK
  try dsimp only at hw_2
  rcases r_1 with _ | a_3
  · refine W.eq (g2 := F0 m 5 ls [.null]) rfl ?_
    refine lv_astoreN (lv' := [(5, .null), (0, .ref h0), (1, .int p0), (2, .int p1), (3, .int p2), (4, .int p3)]) hx hb dX8_nest_5 hl (by decide) rfl (fun ls hl => ?_)
    refine lv_aload_n hx hb dX8_nest_7 rfl (lv_at hl 1 rfl) ?_
    refine lv_iload hx hb dX8_nest_8 (lv_at hl 5 rfl) ?_
    have hFc := va_free (wc := [(h0, .inr (10, [.ref t0, .ref r0, .ref m0, .ref x0, v4, v5, v6, v7, v8, .int 0, .int (-1), .int 0])), (r0, .inl (cR, 4, .inr (.inr (.inr (.inr fR)))))]) hD hS hA [1, 2] rfl
    refine va_callq (va_runV (As := [.int p3]) (rest := []) ⟨hx, hb, hml, hown, hts⟩ (c_X8_recordAny l dC dI h0 t0 r0 m0 x0 (v4) (v5) (v6) (v7) (v8) cR fR p3 H.size) (cwV 1 hts gp_X8_nest_X8_recordAny_128 rfl rfl rfl (by decide +kernel) ⟨Nat.le_of_ble_eq_true rfl, Nat.le_of_ble_eq_true rfl⟩) ⟨Pr.blind _, va_recv hK hP (ci := 10) (q0 := 1) rfl rfl, fun U hU hW => ⟨rfl, Pr.at (hP.sub (ws' := [(h0, .inr (10, [.ref t0, .ref r0, .ref m0, .ref x0, v4, v5, v6, v7, v8, .int 0, .int (-1), .int 0])), (r0, .inl (cR, 4, .inr (.inr (.inr (.inr fR)))))]) [1, 2] rfl) (hK.sub (tys' := [(cR, .object RX5)]) [1] rfl) (hD.sub (ws' := [(h0, .inr (10, [.ref t0, .ref r0, .ref m0, .ref x0, v4, v5, v6, v7, v8, .int 0, .int (-1), .int 0])), (r0, .inl (cR, 4, .inr (.inr (.inr (.inr fR)))))]) [1, 2] (by decide) rfl) hN hZ hS hFc hU hW⟩⟩ rfl rfl hl.1 rfl (lv_room (Nat.le_of_ble_eq_true rfl)) dX8_nest_10 ⟨Nat.le_of_ble_eq_true rfl, Nat.le_of_ble_eq_true rfl⟩) hS (fun q _ h => hFc q h) hFc (fun r_4 u t H1 locs ht hvm hw_5 hB hz1 hk1 hS => ?_)
    obtain ⟨hP, hD, hK⟩ := Bq.join (wr := [(m0, .inl (cM, 8, .inr (.inr (.inr (.inr (fun _ => none))))))]) hB ht hvm hP hD [1, 2] [0] rfl rfl (by decide) (by decide) hk1 hFc hK
    generalize H1 = H at hP hS ⊢
    have hP : va_P (dC, dI) vwCl [(m0, .inl (cM, 8, .inr (.inr (.inr (.inr (fun _ => none)))))), (h0, .inr (10, [.ref t0, .ref r0, .ref m0, .ref x0, v4, v5, v6, v7, v8, .int 0, .int (-1), .int 0])), (r0, .inl (cR, 4, .inr (.inr (.inr (.inr fR)))))] H := hP
    have hD : va_D A [(m0, .inl (cM, 8, .inr (.inr (.inr (.inr (fun _ => none)))))), (h0, .inr (10, [.ref t0, .ref r0, .ref m0, .ref x0, v4, v5, v6, v7, v8, .int 0, .int (-1), .int 0])), (r0, .inl (cR, 4, .inr (.inr (.inr (.inr fR)))))] := hD
    have hK : va_K (dC, dI) vwCl [(cM, .object RX1), (cR, .object RX5)] s := hK
    try dsimp only at hw_5
    rcases r_4 with _ | a_6
    · refine W.eq (g2 := F0 m 13 ls [.null]) rfl ?_
      refine lv_astoreN (lv' := [(6, .null), (5, .null), (0, .ref h0), (1, .int p0), (2, .int p1), (3, .int p2), (4, .int p3)]) hx hb dX8_nest_13 hl (by decide) rfl (fun ls hl => ?_)
      refine lv_aload_n hx hb dX8_nest_15 rfl (lv_at hl 2 rfl) ?_
      refine va_get (D := (dC, dI)) (ci := 10) (v := .ref m0) (C := RX8) (T := TX8) (N := 12) hx hb hts iRX8 hown hK hP 1 rfl rfl 2 (by decide) (hts (.fieldLink RX8 24 "RecordBench" "makes" "[LRecordBench$Make;") (by decide +kernel)) (fun _ h9 => h9) rfl dX8_nest_16 ?_
      refine lv_iload_n hx hb dX8_nest_19 rfl (lv_at hl 4 rfl) ?_
      have hFc := va_free (wc := [(m0, .inl (cM, 8, .inr (.inr (.inr (.inr (fun _ => none))))))]) hD hS hA [0] rfl
      refine va_callq (va_runS (As := [.ref m0, .int p1]) (rest := []) ⟨hx, hb, hml, hown, hts⟩ (c_X8_makeOf l dC dI m0 p1 cM H.size) (cwS 2 hts gp_X8_nest_X8_makeOf_136 rfl rfl rfl (by decide +kernel) ⟨Nat.le_of_ble_eq_true rfl, Nat.le_of_ble_eq_true rfl⟩) ⟨Pr.blind _, fun U hU hW => ⟨rfl, Pr.at (hP.sub (ws' := [(m0, .inl (cM, 8, .inr (.inr (.inr (.inr (fun _ => none))))))]) [0] rfl) (hK.sub (tys' := [(cM, .object RX1)]) [0] rfl) (hD.sub (ws' := [(m0, .inl (cM, 8, .inr (.inr (.inr (.inr (fun _ => none))))))]) [0] (by decide) rfl) hN hZ hS hFc hU hW⟩⟩ rfl rfl hl.1 rfl (lv_room (Nat.le_of_ble_eq_true rfl)) dX8_nest_20 ⟨Nat.le_of_ble_eq_true rfl, Nat.le_of_ble_eq_true rfl⟩) hS (fun q _ h => hFc q h) hFc (fun r_7 u t H1 locs ht hvm hw_8 hB hz1 hk1 hS => ?_)
      obtain ⟨hP, hD, hK⟩ := Bq.join (wr := [(h0, .inr (10, [.ref t0, .ref r0, .ref m0, .ref x0, v4, v5, v6, v7, v8, .int 0, .int (-1), .int 0])), (r0, .inl (cR, 4, .inr (.inr (.inr (.inr fR)))))]) hB ht hvm hP hD [0] [1, 2] rfl rfl (by decide) (by decide) hk1 hFc hK
      generalize H1 = H at hP hS ⊢
      have hP : va_P (dC, dI) vwCl [(h0, .inr (10, [.ref t0, .ref r0, .ref m0, .ref x0, v4, v5, v6, v7, v8, .int 0, .int (-1), .int 0])), (r0, .inl (cR, 4, .inr (.inr (.inr (.inr fR))))), (m0, .inl (cM, 8, .inr (.inr (.inr (.inr (fun _ => none))))))] H := hP
      have hD : va_D A [(h0, .inr (10, [.ref t0, .ref r0, .ref m0, .ref x0, v4, v5, v6, v7, v8, .int 0, .int (-1), .int 0])), (r0, .inl (cR, 4, .inr (.inr (.inr (.inr fR))))), (m0, .inl (cM, 8, .inr (.inr (.inr (.inr (fun _ => none))))))] := hD
      have hK : va_K (dC, dI) vwCl [(cM, .object RX1), (cR, .object RX5)] s := hK
      try dsimp only at hw_8
      have k_9 := hw_8
      subst k_9
      refine W.eq (g2 := F0 m 23 ls [.null]) rfl ?_
      refine lv_astoreN (lv' := [(7, .null), (6, .null), (5, .null), (0, .ref h0), (1, .int p0), (2, .int p1), (3, .int p2), (4, .int p3)]) hx hb dX8_nest_23 hl (by decide) rfl (fun ls hl => ?_)
      refine lv_aload_n hx hb dX8_nest_25 rfl (lv_at hl 3 rfl) ?_
      refine lv_iload_n hx hb dX8_nest_26 rfl (lv_at hl 5 rfl) ?_
      refine lv_iload_n hx hb dX8_nest_27 rfl (lv_at hl 6 rfl) ?_
      have hFc := va_free (wc := [(h0, .inr (10, [.ref t0, .ref r0, .ref m0, .ref x0, v4, v5, v6, v7, v8, .int 0, .int (-1), .int 0])), (m0, .inl (cM, 8, .inr (.inr (.inr (.inr (fun _ => none))))))]) hD hS hA [0, 2] rfl
      refine va_callq (va_runV (As := [.int p1, .int p2]) (rest := []) ⟨hx, hb, hml, hown, hts⟩ (c_X8_fieldOf l dC dI h0 t0 r0 m0 x0 (v4) (v5) (v6) (v7) (v8) cM p1 p2 H.size) (cwV 2 hts gp_X8_nest_X8_fieldOf_100 rfl rfl rfl (by decide +kernel) ⟨Nat.le_of_ble_eq_true rfl, Nat.le_of_ble_eq_true rfl⟩) ⟨Pr.blind _, va_recv hK hP (ci := 10) (q0 := 0) rfl rfl, fun U hU hW => ⟨rfl, Pr.at (hP.sub (ws' := [(h0, .inr (10, [.ref t0, .ref r0, .ref m0, .ref x0, v4, v5, v6, v7, v8, .int 0, .int (-1), .int 0])), (m0, .inl (cM, 8, .inr (.inr (.inr (.inr (fun _ => none))))))]) [0, 2] rfl) (hK.sub (tys' := [(cM, .object RX1)]) [0] rfl) (hD.sub (ws' := [(h0, .inr (10, [.ref t0, .ref r0, .ref m0, .ref x0, v4, v5, v6, v7, v8, .int 0, .int (-1), .int 0])), (m0, .inl (cM, 8, .inr (.inr (.inr (.inr (fun _ => none))))))]) [0, 2] (by decide) rfl) hN hZ hS hFc hU hW⟩⟩ rfl rfl hl.1 rfl (lv_room (Nat.le_of_ble_eq_true rfl)) dX8_nest_28 ⟨Nat.le_of_ble_eq_true rfl, Nat.le_of_ble_eq_true rfl⟩) hS (fun q _ h => hFc q h) hFc (fun r_10 u t H1 locs ht hvm hw_11 hB hz1 hk1 hS => ?_)
      obtain ⟨hP, hD, hK⟩ := Bq.join (wr := [(r0, .inl (cR, 4, .inr (.inr (.inr (.inr fR)))))]) hB ht hvm hP hD [0, 2] [1] rfl rfl (by decide) (by decide) hk1 hFc hK
      generalize H1 = H at hP hS ⊢
      have hP : va_P (dC, dI) vwCl [(r0, .inl (cR, 4, .inr (.inr (.inr (.inr fR))))), (h0, .inr (10, [.ref t0, .ref r0, .ref m0, .ref x0, v4, v5, v6, v7, v8, .int 0, .int (-1), .int 0])), (m0, .inl (cM, 8, .inr (.inr (.inr (.inr (fun _ => none))))))] H := hP
      have hD : va_D A [(r0, .inl (cR, 4, .inr (.inr (.inr (.inr fR))))), (h0, .inr (10, [.ref t0, .ref r0, .ref m0, .ref x0, v4, v5, v6, v7, v8, .int 0, .int (-1), .int 0])), (m0, .inl (cM, 8, .inr (.inr (.inr (.inr (fun _ => none))))))] := hD
      have hK : va_K (dC, dI) vwCl [(cM, .object RX1), (cR, .object RX5)] s := hK
      try dsimp only at hw_11
      have k_12 := hw_11
      subst k_12
      refine W.eq (g2 := F0 m 31 ls [.null]) rfl ?_
      refine lv_astoreN (lv' := [(8, .null), (7, .null), (6, .null), (5, .null), (0, .ref h0), (1, .int p0), (2, .int p1), (3, .int p2), (4, .int p3)]) hx hb dX8_nest_31 hl (by decide) rfl (fun ls hl => ?_)
      refine lv_aloadN hx hb dX8_nest_33 (lv_at hl 3 rfl) ?_
      refine lv_ifnullN (tgt := 69) hx hb dX8_nest_35 (by decide) ?_
      refine lv_iconst (v := (-1)) hx hb dX8_nest_69 (by decide) ?_
      have hP9 := hP.sub (ws' := []) [] rfl
      have hD9 := hD.sub (ws' := []) [] (by decide) rfl
      have hK9 := hK.sub (tys' := []) [] rfl
      exact W.iret (v := (-1)) hx hb hr (fun t ht hW => ⟨⟨(-1), (), rfl, rfl, by rw [ht]; exact hP9, va_K.moved hW.alike hK9, hD9⟩, hS.F ht⟩) hS.2.2 dX8_nest_70
    · refine W.eq (g2 := F0 m 13 ls [.ref a_6]) rfl ?_
      refine lv_astore (lv' := [(6, .ref a_6), (5, .null), (0, .ref h0), (1, .int p0), (2, .int p1), (3, .int p2), (4, .int p3)]) hx hb dX8_nest_13 hl (by decide) rfl (fun ls hl => ?_)
      refine lv_aload_n hx hb dX8_nest_15 rfl (lv_at hl 2 rfl) ?_
      refine va_get (D := (dC, dI)) (ci := 10) (v := .ref m0) (C := RX8) (T := TX8) (N := 12) hx hb hts iRX8 hown hK hP 1 rfl rfl 2 (by decide) (hts (.fieldLink RX8 24 "RecordBench" "makes" "[LRecordBench$Make;") (by decide +kernel)) (fun _ h9 => h9) rfl dX8_nest_16 ?_
      refine lv_iload_n hx hb dX8_nest_19 rfl (lv_at hl 4 rfl) ?_
      have hFc := va_free (wc := [(m0, .inl (cM, 8, .inr (.inr (.inr (.inr (fun _ => none))))))]) hD hS hA [0] rfl
      refine va_callq (va_runS (As := [.ref m0, .int p1]) (rest := []) ⟨hx, hb, hml, hown, hts⟩ (c_X8_makeOf l dC dI m0 p1 cM H.size) (cwS 2 hts gp_X8_nest_X8_makeOf_136 rfl rfl rfl (by decide +kernel) ⟨Nat.le_of_ble_eq_true rfl, Nat.le_of_ble_eq_true rfl⟩) ⟨Pr.blind _, fun U hU hW => ⟨rfl, Pr.at (hP.sub (ws' := [(m0, .inl (cM, 8, .inr (.inr (.inr (.inr (fun _ => none))))))]) [0] rfl) (hK.sub (tys' := [(cM, .object RX1)]) [0] rfl) (hD.sub (ws' := [(m0, .inl (cM, 8, .inr (.inr (.inr (.inr (fun _ => none))))))]) [0] (by decide) rfl) hN hZ hS hFc hU hW⟩⟩ rfl rfl hl.1 rfl (lv_room (Nat.le_of_ble_eq_true rfl)) dX8_nest_20 ⟨Nat.le_of_ble_eq_true rfl, Nat.le_of_ble_eq_true rfl⟩) hS (fun q _ h => hFc q h) hFc (fun r_13 u t H1 locs ht hvm hw_14 hB hz1 hk1 hS => ?_)
      obtain ⟨hP, hD, hK⟩ := Bq.join (wr := [(h0, .inr (10, [.ref t0, .ref r0, .ref m0, .ref x0, v4, v5, v6, v7, v8, .int 0, .int (-1), .int 0])), (r0, .inl (cR, 4, .inr (.inr (.inr (.inr fR)))))]) hB ht hvm hP hD [0] [1, 2] rfl rfl (by decide) (by decide) hk1 hFc hK
      generalize H1 = H at hP hS ⊢
      have hP : va_P (dC, dI) vwCl [(h0, .inr (10, [.ref t0, .ref r0, .ref m0, .ref x0, v4, v5, v6, v7, v8, .int 0, .int (-1), .int 0])), (r0, .inl (cR, 4, .inr (.inr (.inr (.inr fR))))), (m0, .inl (cM, 8, .inr (.inr (.inr (.inr (fun _ => none))))))] H := hP
      have hD : va_D A [(h0, .inr (10, [.ref t0, .ref r0, .ref m0, .ref x0, v4, v5, v6, v7, v8, .int 0, .int (-1), .int 0])), (r0, .inl (cR, 4, .inr (.inr (.inr (.inr fR))))), (m0, .inl (cM, 8, .inr (.inr (.inr (.inr (fun _ => none))))))] := hD
      have hK : va_K (dC, dI) vwCl [(cM, .object RX1), (cR, .object RX5)] s := hK
      try dsimp only at hw_14
      have k_15 := hw_14
      subst k_15
      refine W.eq (g2 := F0 m 23 ls [.null]) rfl ?_
      refine lv_astoreN (lv' := [(7, .null), (6, .ref a_6), (5, .null), (0, .ref h0), (1, .int p0), (2, .int p1), (3, .int p2), (4, .int p3)]) hx hb dX8_nest_23 hl (by decide) rfl (fun ls hl => ?_)
      refine lv_aload_n hx hb dX8_nest_25 rfl (lv_at hl 3 rfl) ?_
      refine lv_iload_n hx hb dX8_nest_26 rfl (lv_at hl 5 rfl) ?_
      refine lv_iload_n hx hb dX8_nest_27 rfl (lv_at hl 6 rfl) ?_
      have hFc := va_free (wc := [(h0, .inr (10, [.ref t0, .ref r0, .ref m0, .ref x0, v4, v5, v6, v7, v8, .int 0, .int (-1), .int 0])), (m0, .inl (cM, 8, .inr (.inr (.inr (.inr (fun _ => none))))))]) hD hS hA [0, 2] rfl
      refine va_callq (va_runV (As := [.int p1, .int p2]) (rest := []) ⟨hx, hb, hml, hown, hts⟩ (c_X8_fieldOf l dC dI h0 t0 r0 m0 x0 (v4) (v5) (v6) (v7) (v8) cM p1 p2 H.size) (cwV 2 hts gp_X8_nest_X8_fieldOf_100 rfl rfl rfl (by decide +kernel) ⟨Nat.le_of_ble_eq_true rfl, Nat.le_of_ble_eq_true rfl⟩) ⟨Pr.blind _, va_recv hK hP (ci := 10) (q0 := 0) rfl rfl, fun U hU hW => ⟨rfl, Pr.at (hP.sub (ws' := [(h0, .inr (10, [.ref t0, .ref r0, .ref m0, .ref x0, v4, v5, v6, v7, v8, .int 0, .int (-1), .int 0])), (m0, .inl (cM, 8, .inr (.inr (.inr (.inr (fun _ => none))))))]) [0, 2] rfl) (hK.sub (tys' := [(cM, .object RX1)]) [0] rfl) (hD.sub (ws' := [(h0, .inr (10, [.ref t0, .ref r0, .ref m0, .ref x0, v4, v5, v6, v7, v8, .int 0, .int (-1), .int 0])), (m0, .inl (cM, 8, .inr (.inr (.inr (.inr (fun _ => none))))))]) [0, 2] (by decide) rfl) hN hZ hS hFc hU hW⟩⟩ rfl rfl hl.1 rfl (lv_room (Nat.le_of_ble_eq_true rfl)) dX8_nest_28 ⟨Nat.le_of_ble_eq_true rfl, Nat.le_of_ble_eq_true rfl⟩) hS (fun q _ h => hFc q h) hFc (fun r_16 u t H1 locs ht hvm hw_17 hB hz1 hk1 hS => ?_)
      obtain ⟨hP, hD, hK⟩ := Bq.join (wr := [(r0, .inl (cR, 4, .inr (.inr (.inr (.inr fR)))))]) hB ht hvm hP hD [0, 2] [1] rfl rfl (by decide) (by decide) hk1 hFc hK
      generalize H1 = H at hP hS ⊢
      have hP : va_P (dC, dI) vwCl [(r0, .inl (cR, 4, .inr (.inr (.inr (.inr fR))))), (h0, .inr (10, [.ref t0, .ref r0, .ref m0, .ref x0, v4, v5, v6, v7, v8, .int 0, .int (-1), .int 0])), (m0, .inl (cM, 8, .inr (.inr (.inr (.inr (fun _ => none))))))] H := hP
      have hD : va_D A [(r0, .inl (cR, 4, .inr (.inr (.inr (.inr fR))))), (h0, .inr (10, [.ref t0, .ref r0, .ref m0, .ref x0, v4, v5, v6, v7, v8, .int 0, .int (-1), .int 0])), (m0, .inl (cM, 8, .inr (.inr (.inr (.inr (fun _ => none))))))] := hD
      have hK : va_K (dC, dI) vwCl [(cM, .object RX1), (cR, .object RX5)] s := hK
      try dsimp only at hw_17
      have k_18 := hw_17
      subst k_18
      refine W.eq (g2 := F0 m 31 ls [.null]) rfl ?_
      refine lv_astoreN (lv' := [(8, .null), (7, .null), (6, .ref a_6), (5, .null), (0, .ref h0), (1, .int p0), (2, .int p1), (3, .int p2), (4, .int p3)]) hx hb dX8_nest_31 hl (by decide) rfl (fun ls hl => ?_)
      refine lv_aloadN hx hb dX8_nest_33 (lv_at hl 3 rfl) ?_
      refine lv_ifnullN (tgt := 69) hx hb dX8_nest_35 (by decide) ?_
      refine lv_iconst (v := (-1)) hx hb dX8_nest_69 (by decide) ?_
      have hP9 := hP.sub (ws' := []) [] rfl
      have hD9 := hD.sub (ws' := []) [] (by decide) rfl
      have hK9 := hK.sub (tys' := []) [] rfl
      exact W.iret (v := (-1)) hx hb hr (fun t ht hW => ⟨⟨(-1), (), rfl, rfl, by rw [ht]; exact hP9, va_K.moved hW.alike hK9, hD9⟩, hS.F ht⟩) hS.2.2 dX8_nest_70
  · refine W.eq (g2 := F0 m 5 ls [.ref a_3]) rfl ?_
    refine lv_astore (lv' := [(5, .ref a_3), (0, .ref h0), (1, .int p0), (2, .int p1), (3, .int p2), (4, .int p3)]) hx hb dX8_nest_5 hl (by decide) rfl (fun ls hl => ?_)
    refine lv_aload_n hx hb dX8_nest_7 rfl (lv_at hl 1 rfl) ?_
    refine lv_iload hx hb dX8_nest_8 (lv_at hl 5 rfl) ?_
    have hFc := va_free (wc := [(h0, .inr (10, [.ref t0, .ref r0, .ref m0, .ref x0, v4, v5, v6, v7, v8, .int 0, .int (-1), .int 0])), (r0, .inl (cR, 4, .inr (.inr (.inr (.inr fR)))))]) hD hS hA [1, 2] rfl
    refine va_callq (va_runV (As := [.int p3]) (rest := []) ⟨hx, hb, hml, hown, hts⟩ (c_X8_recordAny l dC dI h0 t0 r0 m0 x0 (v4) (v5) (v6) (v7) (v8) cR fR p3 H.size) (cwV 1 hts gp_X8_nest_X8_recordAny_128 rfl rfl rfl (by decide +kernel) ⟨Nat.le_of_ble_eq_true rfl, Nat.le_of_ble_eq_true rfl⟩) ⟨Pr.blind _, va_recv hK hP (ci := 10) (q0 := 1) rfl rfl, fun U hU hW => ⟨rfl, Pr.at (hP.sub (ws' := [(h0, .inr (10, [.ref t0, .ref r0, .ref m0, .ref x0, v4, v5, v6, v7, v8, .int 0, .int (-1), .int 0])), (r0, .inl (cR, 4, .inr (.inr (.inr (.inr fR)))))]) [1, 2] rfl) (hK.sub (tys' := [(cR, .object RX5)]) [1] rfl) (hD.sub (ws' := [(h0, .inr (10, [.ref t0, .ref r0, .ref m0, .ref x0, v4, v5, v6, v7, v8, .int 0, .int (-1), .int 0])), (r0, .inl (cR, 4, .inr (.inr (.inr (.inr fR)))))]) [1, 2] (by decide) rfl) hN hZ hS hFc hU hW⟩⟩ rfl rfl hl.1 rfl (lv_room (Nat.le_of_ble_eq_true rfl)) dX8_nest_10 ⟨Nat.le_of_ble_eq_true rfl, Nat.le_of_ble_eq_true rfl⟩) hS (fun q _ h => hFc q h) hFc (fun r_19 u t H1 locs ht hvm hw_20 hB hz1 hk1 hS => ?_)
    obtain ⟨hP, hD, hK⟩ := Bq.join (wr := [(m0, .inl (cM, 8, .inr (.inr (.inr (.inr (fun _ => none))))))]) hB ht hvm hP hD [1, 2] [0] rfl rfl (by decide) (by decide) hk1 hFc hK
    generalize H1 = H at hP hS ⊢
    have hP : va_P (dC, dI) vwCl [(m0, .inl (cM, 8, .inr (.inr (.inr (.inr (fun _ => none)))))), (h0, .inr (10, [.ref t0, .ref r0, .ref m0, .ref x0, v4, v5, v6, v7, v8, .int 0, .int (-1), .int 0])), (r0, .inl (cR, 4, .inr (.inr (.inr (.inr fR)))))] H := hP
    have hD : va_D A [(m0, .inl (cM, 8, .inr (.inr (.inr (.inr (fun _ => none)))))), (h0, .inr (10, [.ref t0, .ref r0, .ref m0, .ref x0, v4, v5, v6, v7, v8, .int 0, .int (-1), .int 0])), (r0, .inl (cR, 4, .inr (.inr (.inr (.inr fR)))))] := hD
    have hK : va_K (dC, dI) vwCl [(cM, .object RX1), (cR, .object RX5)] s := hK
    try dsimp only at hw_20
    rcases r_19 with _ | a_21
    · refine W.eq (g2 := F0 m 13 ls [.null]) rfl ?_
      refine lv_astoreN (lv' := [(6, .null), (5, .ref a_3), (0, .ref h0), (1, .int p0), (2, .int p1), (3, .int p2), (4, .int p3)]) hx hb dX8_nest_13 hl (by decide) rfl (fun ls hl => ?_)
      refine lv_aload_n hx hb dX8_nest_15 rfl (lv_at hl 2 rfl) ?_
      refine va_get (D := (dC, dI)) (ci := 10) (v := .ref m0) (C := RX8) (T := TX8) (N := 12) hx hb hts iRX8 hown hK hP 1 rfl rfl 2 (by decide) (hts (.fieldLink RX8 24 "RecordBench" "makes" "[LRecordBench$Make;") (by decide +kernel)) (fun _ h9 => h9) rfl dX8_nest_16 ?_
      refine lv_iload_n hx hb dX8_nest_19 rfl (lv_at hl 4 rfl) ?_
      have hFc := va_free (wc := [(m0, .inl (cM, 8, .inr (.inr (.inr (.inr (fun _ => none))))))]) hD hS hA [0] rfl
      refine va_callq (va_runS (As := [.ref m0, .int p1]) (rest := []) ⟨hx, hb, hml, hown, hts⟩ (c_X8_makeOf l dC dI m0 p1 cM H.size) (cwS 2 hts gp_X8_nest_X8_makeOf_136 rfl rfl rfl (by decide +kernel) ⟨Nat.le_of_ble_eq_true rfl, Nat.le_of_ble_eq_true rfl⟩) ⟨Pr.blind _, fun U hU hW => ⟨rfl, Pr.at (hP.sub (ws' := [(m0, .inl (cM, 8, .inr (.inr (.inr (.inr (fun _ => none))))))]) [0] rfl) (hK.sub (tys' := [(cM, .object RX1)]) [0] rfl) (hD.sub (ws' := [(m0, .inl (cM, 8, .inr (.inr (.inr (.inr (fun _ => none))))))]) [0] (by decide) rfl) hN hZ hS hFc hU hW⟩⟩ rfl rfl hl.1 rfl (lv_room (Nat.le_of_ble_eq_true rfl)) dX8_nest_20 ⟨Nat.le_of_ble_eq_true rfl, Nat.le_of_ble_eq_true rfl⟩) hS (fun q _ h => hFc q h) hFc (fun r_22 u t H1 locs ht hvm hw_23 hB hz1 hk1 hS => ?_)
      obtain ⟨hP, hD, hK⟩ := Bq.join (wr := [(h0, .inr (10, [.ref t0, .ref r0, .ref m0, .ref x0, v4, v5, v6, v7, v8, .int 0, .int (-1), .int 0])), (r0, .inl (cR, 4, .inr (.inr (.inr (.inr fR)))))]) hB ht hvm hP hD [0] [1, 2] rfl rfl (by decide) (by decide) hk1 hFc hK
      generalize H1 = H at hP hS ⊢
      have hP : va_P (dC, dI) vwCl [(h0, .inr (10, [.ref t0, .ref r0, .ref m0, .ref x0, v4, v5, v6, v7, v8, .int 0, .int (-1), .int 0])), (r0, .inl (cR, 4, .inr (.inr (.inr (.inr fR))))), (m0, .inl (cM, 8, .inr (.inr (.inr (.inr (fun _ => none))))))] H := hP
      have hD : va_D A [(h0, .inr (10, [.ref t0, .ref r0, .ref m0, .ref x0, v4, v5, v6, v7, v8, .int 0, .int (-1), .int 0])), (r0, .inl (cR, 4, .inr (.inr (.inr (.inr fR))))), (m0, .inl (cM, 8, .inr (.inr (.inr (.inr (fun _ => none))))))] := hD
      have hK : va_K (dC, dI) vwCl [(cM, .object RX1), (cR, .object RX5)] s := hK
      try dsimp only at hw_23
      have k_24 := hw_23
      subst k_24
      refine W.eq (g2 := F0 m 23 ls [.null]) rfl ?_
      refine lv_astoreN (lv' := [(7, .null), (6, .null), (5, .ref a_3), (0, .ref h0), (1, .int p0), (2, .int p1), (3, .int p2), (4, .int p3)]) hx hb dX8_nest_23 hl (by decide) rfl (fun ls hl => ?_)
      refine lv_aload_n hx hb dX8_nest_25 rfl (lv_at hl 3 rfl) ?_
      refine lv_iload_n hx hb dX8_nest_26 rfl (lv_at hl 5 rfl) ?_
      refine lv_iload_n hx hb dX8_nest_27 rfl (lv_at hl 6 rfl) ?_
      have hFc := va_free (wc := [(h0, .inr (10, [.ref t0, .ref r0, .ref m0, .ref x0, v4, v5, v6, v7, v8, .int 0, .int (-1), .int 0])), (m0, .inl (cM, 8, .inr (.inr (.inr (.inr (fun _ => none))))))]) hD hS hA [0, 2] rfl
      refine va_callq (va_runV (As := [.int p1, .int p2]) (rest := []) ⟨hx, hb, hml, hown, hts⟩ (c_X8_fieldOf l dC dI h0 t0 r0 m0 x0 (v4) (v5) (v6) (v7) (v8) cM p1 p2 H.size) (cwV 2 hts gp_X8_nest_X8_fieldOf_100 rfl rfl rfl (by decide +kernel) ⟨Nat.le_of_ble_eq_true rfl, Nat.le_of_ble_eq_true rfl⟩) ⟨Pr.blind _, va_recv hK hP (ci := 10) (q0 := 0) rfl rfl, fun U hU hW => ⟨rfl, Pr.at (hP.sub (ws' := [(h0, .inr (10, [.ref t0, .ref r0, .ref m0, .ref x0, v4, v5, v6, v7, v8, .int 0, .int (-1), .int 0])), (m0, .inl (cM, 8, .inr (.inr (.inr (.inr (fun _ => none))))))]) [0, 2] rfl) (hK.sub (tys' := [(cM, .object RX1)]) [0] rfl) (hD.sub (ws' := [(h0, .inr (10, [.ref t0, .ref r0, .ref m0, .ref x0, v4, v5, v6, v7, v8, .int 0, .int (-1), .int 0])), (m0, .inl (cM, 8, .inr (.inr (.inr (.inr (fun _ => none))))))]) [0, 2] (by decide) rfl) hN hZ hS hFc hU hW⟩⟩ rfl rfl hl.1 rfl (lv_room (Nat.le_of_ble_eq_true rfl)) dX8_nest_28 ⟨Nat.le_of_ble_eq_true rfl, Nat.le_of_ble_eq_true rfl⟩) hS (fun q _ h => hFc q h) hFc (fun r_25 u t H1 locs ht hvm hw_26 hB hz1 hk1 hS => ?_)
      obtain ⟨hP, hD, hK⟩ := Bq.join (wr := [(r0, .inl (cR, 4, .inr (.inr (.inr (.inr fR)))))]) hB ht hvm hP hD [0, 2] [1] rfl rfl (by decide) (by decide) hk1 hFc hK
      generalize H1 = H at hP hS ⊢
      have hP : va_P (dC, dI) vwCl [(r0, .inl (cR, 4, .inr (.inr (.inr (.inr fR))))), (h0, .inr (10, [.ref t0, .ref r0, .ref m0, .ref x0, v4, v5, v6, v7, v8, .int 0, .int (-1), .int 0])), (m0, .inl (cM, 8, .inr (.inr (.inr (.inr (fun _ => none))))))] H := hP
      have hD : va_D A [(r0, .inl (cR, 4, .inr (.inr (.inr (.inr fR))))), (h0, .inr (10, [.ref t0, .ref r0, .ref m0, .ref x0, v4, v5, v6, v7, v8, .int 0, .int (-1), .int 0])), (m0, .inl (cM, 8, .inr (.inr (.inr (.inr (fun _ => none))))))] := hD
      have hK : va_K (dC, dI) vwCl [(cM, .object RX1), (cR, .object RX5)] s := hK
      try dsimp only at hw_26
      have k_27 := hw_26
      subst k_27
      refine W.eq (g2 := F0 m 31 ls [.null]) rfl ?_
      refine lv_astoreN (lv' := [(8, .null), (7, .null), (6, .null), (5, .ref a_3), (0, .ref h0), (1, .int p0), (2, .int p1), (3, .int p2), (4, .int p3)]) hx hb dX8_nest_31 hl (by decide) rfl (fun ls hl => ?_)
      refine lv_aload hx hb dX8_nest_33 (lv_at hl 3 rfl) ?_
      refine lv_ifnull hx hb dX8_nest_35 ?_
      refine lv_aloadN hx hb dX8_nest_38 (lv_at hl 2 rfl) ?_
      refine lv_ifnullN (tgt := 69) hx hb dX8_nest_40 (by decide) ?_
      refine lv_iconst (v := (-1)) hx hb dX8_nest_69 (by decide) ?_
      have hP9 := hP.sub (ws' := []) [] rfl
      have hD9 := hD.sub (ws' := []) [] (by decide) rfl
      have hK9 := hK.sub (tys' := []) [] rfl
      exact W.iret (v := (-1)) hx hb hr (fun t ht hW => ⟨⟨(-1), (), rfl, rfl, by rw [ht]; exact hP9, va_K.moved hW.alike hK9, hD9⟩, hS.F ht⟩) hS.2.2 dX8_nest_70
    · refine W.eq (g2 := F0 m 13 ls [.ref a_21]) rfl ?_
      refine lv_astore (lv' := [(6, .ref a_21), (5, .ref a_3), (0, .ref h0), (1, .int p0), (2, .int p1), (3, .int p2), (4, .int p3)]) hx hb dX8_nest_13 hl (by decide) rfl (fun ls hl => ?_)
      refine lv_aload_n hx hb dX8_nest_15 rfl (lv_at hl 2 rfl) ?_
      refine va_get (D := (dC, dI)) (ci := 10) (v := .ref m0) (C := RX8) (T := TX8) (N := 12) hx hb hts iRX8 hown hK hP 1 rfl rfl 2 (by decide) (hts (.fieldLink RX8 24 "RecordBench" "makes" "[LRecordBench$Make;") (by decide +kernel)) (fun _ h9 => h9) rfl dX8_nest_16 ?_
      refine lv_iload_n hx hb dX8_nest_19 rfl (lv_at hl 4 rfl) ?_
      have hFc := va_free (wc := [(m0, .inl (cM, 8, .inr (.inr (.inr (.inr (fun _ => none))))))]) hD hS hA [0] rfl
      refine va_callq (va_runS (As := [.ref m0, .int p1]) (rest := []) ⟨hx, hb, hml, hown, hts⟩ (c_X8_makeOf l dC dI m0 p1 cM H.size) (cwS 2 hts gp_X8_nest_X8_makeOf_136 rfl rfl rfl (by decide +kernel) ⟨Nat.le_of_ble_eq_true rfl, Nat.le_of_ble_eq_true rfl⟩) ⟨Pr.blind _, fun U hU hW => ⟨rfl, Pr.at (hP.sub (ws' := [(m0, .inl (cM, 8, .inr (.inr (.inr (.inr (fun _ => none))))))]) [0] rfl) (hK.sub (tys' := [(cM, .object RX1)]) [0] rfl) (hD.sub (ws' := [(m0, .inl (cM, 8, .inr (.inr (.inr (.inr (fun _ => none))))))]) [0] (by decide) rfl) hN hZ hS hFc hU hW⟩⟩ rfl rfl hl.1 rfl (lv_room (Nat.le_of_ble_eq_true rfl)) dX8_nest_20 ⟨Nat.le_of_ble_eq_true rfl, Nat.le_of_ble_eq_true rfl⟩) hS (fun q _ h => hFc q h) hFc (fun r_28 u t H1 locs ht hvm hw_29 hB hz1 hk1 hS => ?_)
      obtain ⟨hP, hD, hK⟩ := Bq.join (wr := [(h0, .inr (10, [.ref t0, .ref r0, .ref m0, .ref x0, v4, v5, v6, v7, v8, .int 0, .int (-1), .int 0])), (r0, .inl (cR, 4, .inr (.inr (.inr (.inr fR)))))]) hB ht hvm hP hD [0] [1, 2] rfl rfl (by decide) (by decide) hk1 hFc hK
      generalize H1 = H at hP hS ⊢
      have hP : va_P (dC, dI) vwCl [(h0, .inr (10, [.ref t0, .ref r0, .ref m0, .ref x0, v4, v5, v6, v7, v8, .int 0, .int (-1), .int 0])), (r0, .inl (cR, 4, .inr (.inr (.inr (.inr fR))))), (m0, .inl (cM, 8, .inr (.inr (.inr (.inr (fun _ => none))))))] H := hP
      have hD : va_D A [(h0, .inr (10, [.ref t0, .ref r0, .ref m0, .ref x0, v4, v5, v6, v7, v8, .int 0, .int (-1), .int 0])), (r0, .inl (cR, 4, .inr (.inr (.inr (.inr fR))))), (m0, .inl (cM, 8, .inr (.inr (.inr (.inr (fun _ => none))))))] := hD
      have hK : va_K (dC, dI) vwCl [(cM, .object RX1), (cR, .object RX5)] s := hK
      try dsimp only at hw_29
      have k_30 := hw_29
      subst k_30
      refine W.eq (g2 := F0 m 23 ls [.null]) rfl ?_
      refine lv_astoreN (lv' := [(7, .null), (6, .ref a_21), (5, .ref a_3), (0, .ref h0), (1, .int p0), (2, .int p1), (3, .int p2), (4, .int p3)]) hx hb dX8_nest_23 hl (by decide) rfl (fun ls hl => ?_)
      refine lv_aload_n hx hb dX8_nest_25 rfl (lv_at hl 3 rfl) ?_
      refine lv_iload_n hx hb dX8_nest_26 rfl (lv_at hl 5 rfl) ?_
      refine lv_iload_n hx hb dX8_nest_27 rfl (lv_at hl 6 rfl) ?_
      have hFc := va_free (wc := [(h0, .inr (10, [.ref t0, .ref r0, .ref m0, .ref x0, v4, v5, v6, v7, v8, .int 0, .int (-1), .int 0])), (m0, .inl (cM, 8, .inr (.inr (.inr (.inr (fun _ => none))))))]) hD hS hA [0, 2] rfl
      refine va_callq (va_runV (As := [.int p1, .int p2]) (rest := []) ⟨hx, hb, hml, hown, hts⟩ (c_X8_fieldOf l dC dI h0 t0 r0 m0 x0 (v4) (v5) (v6) (v7) (v8) cM p1 p2 H.size) (cwV 2 hts gp_X8_nest_X8_fieldOf_100 rfl rfl rfl (by decide +kernel) ⟨Nat.le_of_ble_eq_true rfl, Nat.le_of_ble_eq_true rfl⟩) ⟨Pr.blind _, va_recv hK hP (ci := 10) (q0 := 0) rfl rfl, fun U hU hW => ⟨rfl, Pr.at (hP.sub (ws' := [(h0, .inr (10, [.ref t0, .ref r0, .ref m0, .ref x0, v4, v5, v6, v7, v8, .int 0, .int (-1), .int 0])), (m0, .inl (cM, 8, .inr (.inr (.inr (.inr (fun _ => none))))))]) [0, 2] rfl) (hK.sub (tys' := [(cM, .object RX1)]) [0] rfl) (hD.sub (ws' := [(h0, .inr (10, [.ref t0, .ref r0, .ref m0, .ref x0, v4, v5, v6, v7, v8, .int 0, .int (-1), .int 0])), (m0, .inl (cM, 8, .inr (.inr (.inr (.inr (fun _ => none))))))]) [0, 2] (by decide) rfl) hN hZ hS hFc hU hW⟩⟩ rfl rfl hl.1 rfl (lv_room (Nat.le_of_ble_eq_true rfl)) dX8_nest_28 ⟨Nat.le_of_ble_eq_true rfl, Nat.le_of_ble_eq_true rfl⟩) hS (fun q _ h => hFc q h) hFc (fun r_31 u t H1 locs ht hvm hw_32 hB hz1 hk1 hS => ?_)
      obtain ⟨hP, hD, hK⟩ := Bq.join (wr := [(r0, .inl (cR, 4, .inr (.inr (.inr (.inr fR)))))]) hB ht hvm hP hD [0, 2] [1] rfl rfl (by decide) (by decide) hk1 hFc hK
      generalize H1 = H at hP hS ⊢
      have hP : va_P (dC, dI) vwCl [(r0, .inl (cR, 4, .inr (.inr (.inr (.inr fR))))), (h0, .inr (10, [.ref t0, .ref r0, .ref m0, .ref x0, v4, v5, v6, v7, v8, .int 0, .int (-1), .int 0])), (m0, .inl (cM, 8, .inr (.inr (.inr (.inr (fun _ => none))))))] H := hP
      have hD : va_D A [(r0, .inl (cR, 4, .inr (.inr (.inr (.inr fR))))), (h0, .inr (10, [.ref t0, .ref r0, .ref m0, .ref x0, v4, v5, v6, v7, v8, .int 0, .int (-1), .int 0])), (m0, .inl (cM, 8, .inr (.inr (.inr (.inr (fun _ => none))))))] := hD
      have hK : va_K (dC, dI) vwCl [(cM, .object RX1), (cR, .object RX5)] s := hK
      try dsimp only at hw_32
      have k_33 := hw_32
      subst k_33
      refine W.eq (g2 := F0 m 31 ls [.null]) rfl ?_
      refine lv_astoreN (lv' := [(8, .null), (7, .null), (6, .ref a_21), (5, .ref a_3), (0, .ref h0), (1, .int p0), (2, .int p1), (3, .int p2), (4, .int p3)]) hx hb dX8_nest_31 hl (by decide) rfl (fun ls hl => ?_)
      refine lv_aload hx hb dX8_nest_33 (lv_at hl 3 rfl) ?_
      refine lv_ifnull hx hb dX8_nest_35 ?_
      refine lv_aload hx hb dX8_nest_38 (lv_at hl 2 rfl) ?_
      refine lv_ifnull hx hb dX8_nest_40 ?_
      refine lv_aloadN hx hb dX8_nest_43 (lv_at hl 1 rfl) ?_
      refine lv_ifnullN (tgt := 69) hx hb dX8_nest_45 (by decide) ?_
      refine lv_iconst (v := (-1)) hx hb dX8_nest_69 (by decide) ?_
      have hP9 := hP.sub (ws' := []) [] rfl
      have hD9 := hD.sub (ws' := []) [] (by decide) rfl
      have hK9 := hK.sub (tys' := []) [] rfl
      exact W.iret (v := (-1)) hx hb hr (fun t ht hW => ⟨⟨(-1), (), rfl, rfl, by rw [ht]; exact hP9, va_K.moved hW.alike hK9, hD9⟩, hS.F ht⟩) hS.2.2 dX8_nest_70
def wp_X8_drop : List Cond := .code yX8_drop cX8_drop 7 (some .int) :: ([.methodLink RX8 128 yX8_recordOf, .instanceMethod yX8_recordOf, .selects RX8 yX8_recordOf yX8_recordOf, .initialized RX8, .fieldLink RX8 24 "RecordBench" "makes" "[LRecordBench$Make;", .methodLink RX8 136 yX8_makeOf, .static yX8_makeOf, .methodLink RX8 100 yX8_fieldOf, .instanceMethod yX8_fieldOf, .selects RX8 yX8_fieldOf yX8_fieldOf, .code yX8_recordOf cX8_recordOf 2 (some (.object "RecordBench$Row")), .fieldLink RX8 18 "RecordBench" "records" "[LRecordBench$Row;", .code yX8_makeOf cX8_makeOf 2 (some (.object "RecordBench$Make")), .code yX8_fieldOf cX8_fieldOf 4 (some (.object "RecordBench$Field"))] ++ wsX80)
set_option maxRecDepth 20000 in
theorem gp_X8_drop_X8_recordAny_128 : GoodIn wp_X8_drop (wsV RX8 128 RX8 yX8_recordOf wp_X8_recordAny) := goodIn_p _ [11] rfl (by decide +kernel)
set_option maxRecDepth 20000 in
theorem gp_X8_drop_X8_makeOf_136 : GoodIn wp_X8_drop (wsS RX8 136 yX8_makeOf wp_X8_makeOf) := goodIn_p _ [13] rfl (by decide +kernel)
set_option maxRecDepth 20000 in
theorem gp_X8_drop_X8_fieldOf_100 : GoodIn wp_X8_drop (wsV RX8 100 RX8 yX8_fieldOf wp_X8_fieldOf) := goodIn_p _ [14, 13] rfl (by decide +kernel)
set_option maxHeartbeats 4000000 in
set_option maxRecDepth 100000 in
theorem c_X8_drop (l : Launch) (dC : Nat → ClassId) (dI : Nat → Nat → Nat) (h0 : Nat) (t0 : Nat) (r0 : Nat) (m0 : Nat) (x0 : Nat) (v4 : Value) (v5 : Value) (v6 : Value) (v7 : Value) (v8 : Value) (cM : ClassId) (cR : ClassId) (fR : Nat → Option Nat) (p0 : Int32) (p1 : Int32) (p2 : Int32) (sz : Nat) : Met l yX8_drop wp_X8_drop ({ frames := 2, cells := 0, slots := 0, locals := 52 }) (va_Pc [.ref h0, .int p0, .int p1, .int p2] (Pr (dC, dI) [(cM, .object RX1), (cR, .object RX5)] [(h0, .inr (10, [.ref t0, .ref r0, .ref m0, .ref x0, v4, v5, v6, v7, v8, .int 0, .int ((-1)), .int 0])), (m0, .inl (cM, 8, .inr (.inr (.inr (.inr (fun _ => none)))))), (r0, .inl (cR, 4, .inr (.inr (.inr (.inr fR)))))] sz)) (va_Qi (fun r : Int32 => (fun _ : Unit => r = -1)) (Bq (dC, dI) (fun _ : Unit => []) (fun _ : Unit => []) (va_A [(h0, .inr (10, [.ref t0, .ref r0, .ref m0, .ref x0, v4, v5, v6, v7, v8, .int 0, .int ((-1)), .int 0])), (m0, .inl (cM, 8, .inr (.inr (.inr (.inr (fun _ => none)))))), (r0, .inl (cR, 4, .inr (.inr (.inr (.inr fR)))))] sz)) (va_A [(h0, .inr (10, [.ref t0, .ref r0, .ref m0, .ref x0, v4, v5, v6, v7, v8, .int 0, .int ((-1)), .int 0])), (m0, .inl (cM, 8, .inr (.inr (.inr (.inr (fun _ => none)))))), (r0, .inl (cR, 4, .inr (.inr (.inr (.inr fR)))))] sz)) 0 0 (va_A [(h0, .inr (10, [.ref t0, .ref r0, .ref m0, .ref x0, v4, v5, v6, v7, v8, .int 0, .int ((-1)), .int 0])), (m0, .inl (cM, 8, .inr (.inr (.inr (.inr (fun _ => none)))))), (r0, .inl (cR, 4, .inr (.inr (.inr (.inr fR)))))] sz) := by
  refine Met.ofW (cc := cX8_drop) (maxL := 7) (ret := (some .int)) (by decide) rfl ?_
  intro p e s m args below meth c s₁ B hml hv
  obtain ⟨rfl, hsz, hP, hK, hD0, hN, hZ⟩ := hv
  have hx := B.exec
  have hb := B.bytes
  have hr := B.returns
  have hts := atoms_spec (ws := wp_X8_drop) B.pre
  have hown : s.vm.findClass RX8 = some m.cls := findClass_of_methodNamed B.named
  have hlocks := B.notSynchronized
  have iRX8 : ∀ w ∈ u_ws RX8 TX8 12, w ∈ wp_X8_drop := by decide +kernel
  subst hsz
  have hD := hD0.self (sz := s.heap.size)
  generalize hAe : va_A [(h0, .inr (10, [.ref t0, .ref r0, .ref m0, .ref x0, v4, v5, v6, v7, v8, .int 0, .int ((-1)), .int 0])), (m0, .inl (cM, 8, .inr (.inr (.inr (.inr (fun _ => none)))))), (r0, .inl (cR, 4, .inr (.inr (.inr (.inr fR)))))] s.heap.size = A at hD hZ ⊢
  have hA : ∀ q : Nat, s.heap.size ≤ q → A q := fun q h => by rw [← hAe]; exact Or.inr h
  have hS : va_S A s.heap s.heap [] := va_S.rf
  have hP : va_P (dC, dI) vwCl [(h0, .inr (10, [.ref t0, .ref r0, .ref m0, .ref x0, v4, v5, v6, v7, v8, .int 0, .int ((-1)), .int 0])), (m0, .inl (cM, 8, .inr (.inr (.inr (.inr (fun _ => none)))))), (r0, .inl (cR, 4, .inr (.inr (.inr (.inr fR)))))] s.heap := hP
  have hl := lv_entry ([.ref h0, .int p0, .int p1, .int p2]) (n := 7) (Nat.le_of_ble_eq_true rfl)
  rw [lg_entry_eq]
  generalize (lg_sl ([.ref h0, .int p0, .int p1, .int p2]) ++ List.replicate (7 - (lg_sl ([.ref h0, .int p0, .int p1, .int p2])).length) Slot.unset).toArray = ls at hl ⊢
  have hl : lv_has ls 7 [(0, .ref h0), (1, .int p0), (2, .int p1), (3, .int p2)] := hl
  refine lv_aload_n hx hb dX8_drop_0 rfl (lv_at hl 0 rfl) ?_
  refine lv_iload_n hx hb dX8_drop_1 rfl (lv_at hl 1 rfl) ?_
  have hFc := va_free (wc := [(h0, .inr (10, [.ref t0, .ref r0, .ref m0, .ref x0, v4, v5, v6, v7, v8, .int 0, .int ((-1)), .int 0])), (r0, .inl (cR, 4, .inr (.inr (.inr (.inr fR)))))]) hD hS hA [0, 2] rfl
  refine va_callq (va_runV (As := [.int p0]) (rest := []) ⟨hx, hb, hml, hown, hts⟩ (c_X8_recordAny l dC dI h0 t0 r0 m0 x0 (v4) (v5) (v6) (v7) (v8) cR fR p0 s.heap.size) (cwV 1 hts gp_X8_drop_X8_recordAny_128 rfl rfl rfl (by decide +kernel) ⟨Nat.le_of_ble_eq_true rfl, Nat.le_of_ble_eq_true rfl⟩) ⟨Pr.blind _, va_recv hK hP (ci := 10) (q0 := 0) rfl rfl, fun U hU hW => ⟨rfl, Pr.at (hP.sub (ws' := [(h0, .inr (10, [.ref t0, .ref r0, .ref m0, .ref x0, v4, v5, v6, v7, v8, .int 0, .int ((-1)), .int 0])), (r0, .inl (cR, 4, .inr (.inr (.inr (.inr fR)))))]) [0, 2] rfl) (hK.sub (tys' := [(cR, .object RX5)]) [1] rfl) (hD.sub (ws' := [(h0, .inr (10, [.ref t0, .ref r0, .ref m0, .ref x0, v4, v5, v6, v7, v8, .int 0, .int ((-1)), .int 0])), (r0, .inl (cR, 4, .inr (.inr (.inr (.inr fR)))))]) [0, 2] (by decide) rfl) hN hZ hS hFc hU hW⟩⟩ rfl rfl hl.1 rfl (lv_room (Nat.le_of_ble_eq_true rfl)) dX8_drop_2 ⟨Nat.le_of_ble_eq_true rfl, Nat.le_of_ble_eq_true rfl⟩) hS (fun q _ h => hFc q h) hFc (fun r_1 u t H1 locs ht hvm hw_2 hB hz1 hk1 hS => ?_)
  obtain ⟨hP, hD, hK⟩ := Bq.join (wr := [(m0, .inl (cM, 8, .inr (.inr (.inr (.inr (fun _ => none))))))]) hB ht hvm hP hD [0, 2] [1] rfl rfl (by decide) (by decide) hk1 hFc hK
  generalize H1 = H at hP hS ⊢
  have hP : va_P (dC, dI) vwCl [(m0, .inl (cM, 8, .inr (.inr (.inr (.inr (fun _ => none)))))), (h0, .inr (10, [.ref t0, .ref r0, .ref m0, .ref x0, v4, v5, v6, v7, v8, .int 0, .int (-1), .int 0])), (r0, .inl (cR, 4, .inr (.inr (.inr (.inr fR)))))] H := hP
  have hD : va_D A [(m0, .inl (cM, 8, .inr (.inr (.inr (.inr (fun _ => none)))))), (h0, .inr (10, [.ref t0, .ref r0, .ref m0, .ref x0, v4, v5, v6, v7, v8, .int 0, .int (-1), .int 0])), (r0, .inl (cR, 4, .inr (.inr (.inr (.inr fR)))))] := hD
  have hK : va_K (dC, dI) vwCl [(cM, .object RX1), (cR, .object RX5)] s := hK
  try dsimp only at hw_2
  rcases r_1 with _ | a_3
  · refine W.eq (g2 := F0 m 5 ls [.null]) rfl ?_
    refine lv_astoreN (lv' := [(4, .null), (0, .ref h0), (1, .int p0), (2, .int p1), (3, .int p2)]) hx hb dX8_drop_5 hl (by decide) rfl (fun ls hl => ?_)
    refine lv_aload_n hx hb dX8_drop_7 rfl (lv_at hl 1 rfl) ?_
    refine va_get (D := (dC, dI)) (ci := 10) (v := .ref m0) (C := RX8) (T := TX8) (N := 12) hx hb hts iRX8 hown hK hP 1 rfl rfl 2 (by decide) (hts (.fieldLink RX8 24 "RecordBench" "makes" "[LRecordBench$Make;") (by decide +kernel)) (fun _ h9 => h9) rfl dX8_drop_8 ?_
    refine lv_iload_n hx hb dX8_drop_11 rfl (lv_at hl 3 rfl) ?_
    have hFc := va_free (wc := [(m0, .inl (cM, 8, .inr (.inr (.inr (.inr (fun _ => none))))))]) hD hS hA [0] rfl
    refine va_callq (va_runS (As := [.ref m0, .int p1]) (rest := []) ⟨hx, hb, hml, hown, hts⟩ (c_X8_makeOf l dC dI m0 p1 cM H.size) (cwS 2 hts gp_X8_drop_X8_makeOf_136 rfl rfl rfl (by decide +kernel) ⟨Nat.le_of_ble_eq_true rfl, Nat.le_of_ble_eq_true rfl⟩) ⟨Pr.blind _, fun U hU hW => ⟨rfl, Pr.at (hP.sub (ws' := [(m0, .inl (cM, 8, .inr (.inr (.inr (.inr (fun _ => none))))))]) [0] rfl) (hK.sub (tys' := [(cM, .object RX1)]) [0] rfl) (hD.sub (ws' := [(m0, .inl (cM, 8, .inr (.inr (.inr (.inr (fun _ => none))))))]) [0] (by decide) rfl) hN hZ hS hFc hU hW⟩⟩ rfl rfl hl.1 rfl (lv_room (Nat.le_of_ble_eq_true rfl)) dX8_drop_12 ⟨Nat.le_of_ble_eq_true rfl, Nat.le_of_ble_eq_true rfl⟩) hS (fun q _ h => hFc q h) hFc (fun r_4 u t H1 locs ht hvm hw_5 hB hz1 hk1 hS => ?_)
    obtain ⟨hP, hD, hK⟩ := Bq.join (wr := [(h0, .inr (10, [.ref t0, .ref r0, .ref m0, .ref x0, v4, v5, v6, v7, v8, .int 0, .int (-1), .int 0])), (r0, .inl (cR, 4, .inr (.inr (.inr (.inr fR)))))]) hB ht hvm hP hD [0] [1, 2] rfl rfl (by decide) (by decide) hk1 hFc hK
    generalize H1 = H at hP hS ⊢
    have hP : va_P (dC, dI) vwCl [(h0, .inr (10, [.ref t0, .ref r0, .ref m0, .ref x0, v4, v5, v6, v7, v8, .int 0, .int (-1), .int 0])), (r0, .inl (cR, 4, .inr (.inr (.inr (.inr fR))))), (m0, .inl (cM, 8, .inr (.inr (.inr (.inr (fun _ => none))))))] H := hP
    have hD : va_D A [(h0, .inr (10, [.ref t0, .ref r0, .ref m0, .ref x0, v4, v5, v6, v7, v8, .int 0, .int (-1), .int 0])), (r0, .inl (cR, 4, .inr (.inr (.inr (.inr fR))))), (m0, .inl (cM, 8, .inr (.inr (.inr (.inr (fun _ => none))))))] := hD
    have hK : va_K (dC, dI) vwCl [(cM, .object RX1), (cR, .object RX5)] s := hK
    try dsimp only at hw_5
    have k_6 := hw_5
    subst k_6
    refine W.eq (g2 := F0 m 15 ls [.null]) rfl ?_
    refine lv_astoreN (lv' := [(5, .null), (4, .null), (0, .ref h0), (1, .int p0), (2, .int p1), (3, .int p2)]) hx hb dX8_drop_15 hl (by decide) rfl (fun ls hl => ?_)
    refine lv_aload_n hx hb dX8_drop_17 rfl (lv_at hl 2 rfl) ?_
    refine lv_iload_n hx hb dX8_drop_18 rfl (lv_at hl 4 rfl) ?_
    refine lv_iload_n hx hb dX8_drop_19 rfl (lv_at hl 5 rfl) ?_
    have hFc := va_free (wc := [(h0, .inr (10, [.ref t0, .ref r0, .ref m0, .ref x0, v4, v5, v6, v7, v8, .int 0, .int (-1), .int 0])), (m0, .inl (cM, 8, .inr (.inr (.inr (.inr (fun _ => none))))))]) hD hS hA [0, 2] rfl
    refine va_callq (va_runV (As := [.int p1, .int p2]) (rest := []) ⟨hx, hb, hml, hown, hts⟩ (c_X8_fieldOf l dC dI h0 t0 r0 m0 x0 (v4) (v5) (v6) (v7) (v8) cM p1 p2 H.size) (cwV 2 hts gp_X8_drop_X8_fieldOf_100 rfl rfl rfl (by decide +kernel) ⟨Nat.le_of_ble_eq_true rfl, Nat.le_of_ble_eq_true rfl⟩) ⟨Pr.blind _, va_recv hK hP (ci := 10) (q0 := 0) rfl rfl, fun U hU hW => ⟨rfl, Pr.at (hP.sub (ws' := [(h0, .inr (10, [.ref t0, .ref r0, .ref m0, .ref x0, v4, v5, v6, v7, v8, .int 0, .int (-1), .int 0])), (m0, .inl (cM, 8, .inr (.inr (.inr (.inr (fun _ => none))))))]) [0, 2] rfl) (hK.sub (tys' := [(cM, .object RX1)]) [0] rfl) (hD.sub (ws' := [(h0, .inr (10, [.ref t0, .ref r0, .ref m0, .ref x0, v4, v5, v6, v7, v8, .int 0, .int (-1), .int 0])), (m0, .inl (cM, 8, .inr (.inr (.inr (.inr (fun _ => none))))))]) [0, 2] (by decide) rfl) hN hZ hS hFc hU hW⟩⟩ rfl rfl hl.1 rfl (lv_room (Nat.le_of_ble_eq_true rfl)) dX8_drop_20 ⟨Nat.le_of_ble_eq_true rfl, Nat.le_of_ble_eq_true rfl⟩) hS (fun q _ h => hFc q h) hFc (fun r_7 u t H1 locs ht hvm hw_8 hB hz1 hk1 hS => ?_)
    obtain ⟨hP, hD, hK⟩ := Bq.join (wr := [(r0, .inl (cR, 4, .inr (.inr (.inr (.inr fR)))))]) hB ht hvm hP hD [0, 2] [1] rfl rfl (by decide) (by decide) hk1 hFc hK
    generalize H1 = H at hP hS ⊢
    have hP : va_P (dC, dI) vwCl [(r0, .inl (cR, 4, .inr (.inr (.inr (.inr fR))))), (h0, .inr (10, [.ref t0, .ref r0, .ref m0, .ref x0, v4, v5, v6, v7, v8, .int 0, .int (-1), .int 0])), (m0, .inl (cM, 8, .inr (.inr (.inr (.inr (fun _ => none))))))] H := hP
    have hD : va_D A [(r0, .inl (cR, 4, .inr (.inr (.inr (.inr fR))))), (h0, .inr (10, [.ref t0, .ref r0, .ref m0, .ref x0, v4, v5, v6, v7, v8, .int 0, .int (-1), .int 0])), (m0, .inl (cM, 8, .inr (.inr (.inr (.inr (fun _ => none))))))] := hD
    have hK : va_K (dC, dI) vwCl [(cM, .object RX1), (cR, .object RX5)] s := hK
    try dsimp only at hw_8
    have k_9 := hw_8
    subst k_9
    refine W.eq (g2 := F0 m 23 ls [.null]) rfl ?_
    refine lv_astoreN (lv' := [(6, .null), (5, .null), (4, .null), (0, .ref h0), (1, .int p0), (2, .int p1), (3, .int p2)]) hx hb dX8_drop_23 hl (by decide) rfl (fun ls hl => ?_)
    refine lv_aloadN hx hb dX8_drop_25 (lv_at hl 2 rfl) ?_
    refine lv_ifnullN (tgt := 48) hx hb dX8_drop_27 (by decide) ?_
    refine lv_iconst (v := (-1)) hx hb dX8_drop_48 (by decide) ?_
    have hP9 := hP.sub (ws' := []) [] rfl
    have hD9 := hD.sub (ws' := []) [] (by decide) rfl
    have hK9 := hK.sub (tys' := []) [] rfl
    exact W.iret (v := (-1)) hx hb hr (fun t ht hW => ⟨⟨(-1), (), rfl, rfl, by rw [ht]; exact hP9, va_K.moved hW.alike hK9, hD9⟩, hS.F ht⟩) hS.2.2 dX8_drop_49
  · refine W.eq (g2 := F0 m 5 ls [.ref a_3]) rfl ?_
    refine lv_astore (lv' := [(4, .ref a_3), (0, .ref h0), (1, .int p0), (2, .int p1), (3, .int p2)]) hx hb dX8_drop_5 hl (by decide) rfl (fun ls hl => ?_)
    refine lv_aload_n hx hb dX8_drop_7 rfl (lv_at hl 1 rfl) ?_
    refine va_get (D := (dC, dI)) (ci := 10) (v := .ref m0) (C := RX8) (T := TX8) (N := 12) hx hb hts iRX8 hown hK hP 1 rfl rfl 2 (by decide) (hts (.fieldLink RX8 24 "RecordBench" "makes" "[LRecordBench$Make;") (by decide +kernel)) (fun _ h9 => h9) rfl dX8_drop_8 ?_
    refine lv_iload_n hx hb dX8_drop_11 rfl (lv_at hl 3 rfl) ?_
    have hFc := va_free (wc := [(m0, .inl (cM, 8, .inr (.inr (.inr (.inr (fun _ => none))))))]) hD hS hA [0] rfl
    refine va_callq (va_runS (As := [.ref m0, .int p1]) (rest := []) ⟨hx, hb, hml, hown, hts⟩ (c_X8_makeOf l dC dI m0 p1 cM H.size) (cwS 2 hts gp_X8_drop_X8_makeOf_136 rfl rfl rfl (by decide +kernel) ⟨Nat.le_of_ble_eq_true rfl, Nat.le_of_ble_eq_true rfl⟩) ⟨Pr.blind _, fun U hU hW => ⟨rfl, Pr.at (hP.sub (ws' := [(m0, .inl (cM, 8, .inr (.inr (.inr (.inr (fun _ => none))))))]) [0] rfl) (hK.sub (tys' := [(cM, .object RX1)]) [0] rfl) (hD.sub (ws' := [(m0, .inl (cM, 8, .inr (.inr (.inr (.inr (fun _ => none))))))]) [0] (by decide) rfl) hN hZ hS hFc hU hW⟩⟩ rfl rfl hl.1 rfl (lv_room (Nat.le_of_ble_eq_true rfl)) dX8_drop_12 ⟨Nat.le_of_ble_eq_true rfl, Nat.le_of_ble_eq_true rfl⟩) hS (fun q _ h => hFc q h) hFc (fun r_10 u t H1 locs ht hvm hw_11 hB hz1 hk1 hS => ?_)
    obtain ⟨hP, hD, hK⟩ := Bq.join (wr := [(h0, .inr (10, [.ref t0, .ref r0, .ref m0, .ref x0, v4, v5, v6, v7, v8, .int 0, .int (-1), .int 0])), (r0, .inl (cR, 4, .inr (.inr (.inr (.inr fR)))))]) hB ht hvm hP hD [0] [1, 2] rfl rfl (by decide) (by decide) hk1 hFc hK
    generalize H1 = H at hP hS ⊢
    have hP : va_P (dC, dI) vwCl [(h0, .inr (10, [.ref t0, .ref r0, .ref m0, .ref x0, v4, v5, v6, v7, v8, .int 0, .int (-1), .int 0])), (r0, .inl (cR, 4, .inr (.inr (.inr (.inr fR))))), (m0, .inl (cM, 8, .inr (.inr (.inr (.inr (fun _ => none))))))] H := hP
    have hD : va_D A [(h0, .inr (10, [.ref t0, .ref r0, .ref m0, .ref x0, v4, v5, v6, v7, v8, .int 0, .int (-1), .int 0])), (r0, .inl (cR, 4, .inr (.inr (.inr (.inr fR))))), (m0, .inl (cM, 8, .inr (.inr (.inr (.inr (fun _ => none))))))] := hD
    have hK : va_K (dC, dI) vwCl [(cM, .object RX1), (cR, .object RX5)] s := hK
    try dsimp only at hw_11
    have k_12 := hw_11
    subst k_12
    refine W.eq (g2 := F0 m 15 ls [.null]) rfl ?_
    refine lv_astoreN (lv' := [(5, .null), (4, .ref a_3), (0, .ref h0), (1, .int p0), (2, .int p1), (3, .int p2)]) hx hb dX8_drop_15 hl (by decide) rfl (fun ls hl => ?_)
    refine lv_aload_n hx hb dX8_drop_17 rfl (lv_at hl 2 rfl) ?_
    refine lv_iload_n hx hb dX8_drop_18 rfl (lv_at hl 4 rfl) ?_
    refine lv_iload_n hx hb dX8_drop_19 rfl (lv_at hl 5 rfl) ?_
    have hFc := va_free (wc := [(h0, .inr (10, [.ref t0, .ref r0, .ref m0, .ref x0, v4, v5, v6, v7, v8, .int 0, .int (-1), .int 0])), (m0, .inl (cM, 8, .inr (.inr (.inr (.inr (fun _ => none))))))]) hD hS hA [0, 2] rfl
    refine va_callq (va_runV (As := [.int p1, .int p2]) (rest := []) ⟨hx, hb, hml, hown, hts⟩ (c_X8_fieldOf l dC dI h0 t0 r0 m0 x0 (v4) (v5) (v6) (v7) (v8) cM p1 p2 H.size) (cwV 2 hts gp_X8_drop_X8_fieldOf_100 rfl rfl rfl (by decide +kernel) ⟨Nat.le_of_ble_eq_true rfl, Nat.le_of_ble_eq_true rfl⟩) ⟨Pr.blind _, va_recv hK hP (ci := 10) (q0 := 0) rfl rfl, fun U hU hW => ⟨rfl, Pr.at (hP.sub (ws' := [(h0, .inr (10, [.ref t0, .ref r0, .ref m0, .ref x0, v4, v5, v6, v7, v8, .int 0, .int (-1), .int 0])), (m0, .inl (cM, 8, .inr (.inr (.inr (.inr (fun _ => none))))))]) [0, 2] rfl) (hK.sub (tys' := [(cM, .object RX1)]) [0] rfl) (hD.sub (ws' := [(h0, .inr (10, [.ref t0, .ref r0, .ref m0, .ref x0, v4, v5, v6, v7, v8, .int 0, .int (-1), .int 0])), (m0, .inl (cM, 8, .inr (.inr (.inr (.inr (fun _ => none))))))]) [0, 2] (by decide) rfl) hN hZ hS hFc hU hW⟩⟩ rfl rfl hl.1 rfl (lv_room (Nat.le_of_ble_eq_true rfl)) dX8_drop_20 ⟨Nat.le_of_ble_eq_true rfl, Nat.le_of_ble_eq_true rfl⟩) hS (fun q _ h => hFc q h) hFc (fun r_13 u t H1 locs ht hvm hw_14 hB hz1 hk1 hS => ?_)
    obtain ⟨hP, hD, hK⟩ := Bq.join (wr := [(r0, .inl (cR, 4, .inr (.inr (.inr (.inr fR)))))]) hB ht hvm hP hD [0, 2] [1] rfl rfl (by decide) (by decide) hk1 hFc hK
    generalize H1 = H at hP hS ⊢
    have hP : va_P (dC, dI) vwCl [(r0, .inl (cR, 4, .inr (.inr (.inr (.inr fR))))), (h0, .inr (10, [.ref t0, .ref r0, .ref m0, .ref x0, v4, v5, v6, v7, v8, .int 0, .int (-1), .int 0])), (m0, .inl (cM, 8, .inr (.inr (.inr (.inr (fun _ => none))))))] H := hP
    have hD : va_D A [(r0, .inl (cR, 4, .inr (.inr (.inr (.inr fR))))), (h0, .inr (10, [.ref t0, .ref r0, .ref m0, .ref x0, v4, v5, v6, v7, v8, .int 0, .int (-1), .int 0])), (m0, .inl (cM, 8, .inr (.inr (.inr (.inr (fun _ => none))))))] := hD
    have hK : va_K (dC, dI) vwCl [(cM, .object RX1), (cR, .object RX5)] s := hK
    try dsimp only at hw_14
    have k_15 := hw_14
    subst k_15
    refine W.eq (g2 := F0 m 23 ls [.null]) rfl ?_
    refine lv_astoreN (lv' := [(6, .null), (5, .null), (4, .ref a_3), (0, .ref h0), (1, .int p0), (2, .int p1), (3, .int p2)]) hx hb dX8_drop_23 hl (by decide) rfl (fun ls hl => ?_)
    refine lv_aload hx hb dX8_drop_25 (lv_at hl 2 rfl) ?_
    refine lv_ifnull hx hb dX8_drop_27 ?_
    refine lv_aloadN hx hb dX8_drop_30 (lv_at hl 1 rfl) ?_
    refine lv_ifnullN (tgt := 48) hx hb dX8_drop_32 (by decide) ?_
    refine lv_iconst (v := (-1)) hx hb dX8_drop_48 (by decide) ?_
    have hP9 := hP.sub (ws' := []) [] rfl
    have hD9 := hD.sub (ws' := []) [] (by decide) rfl
    have hK9 := hK.sub (tys' := []) [] rfl
    exact W.iret (v := (-1)) hx hb hr (fun t ht hW => ⟨⟨(-1), (), rfl, rfl, by rw [ht]; exact hP9, va_K.moved hW.alike hK9, hD9⟩, hS.F ht⟩) hS.2.2 dX8_drop_49
def wp_X8_read : List Cond := .code yX8_read cX8_read 5 (some .int) :: ([.methodLink RX8 128 yX8_recordOf, .instanceMethod yX8_recordOf, .selects RX8 yX8_recordOf yX8_recordOf, .initialized RX8, .fieldLink RX8 24 "RecordBench" "makes" "[LRecordBench$Make;", .methodLink RX8 136 yX8_makeOf, .static yX8_makeOf, .fieldLink RX8 66 "RecordBench" "latestFault" "I", .fieldLink RX8 70 "RecordBench" "latestPlace" "I", .code yX8_recordOf cX8_recordOf 2 (some (.object "RecordBench$Row")), .fieldLink RX8 18 "RecordBench" "records" "[LRecordBench$Row;", .code yX8_makeOf cX8_makeOf 2 (some (.object "RecordBench$Make"))] ++ wsX80)
set_option maxRecDepth 20000 in
theorem gp_X8_read_X8_recordAny_128 : GoodIn wp_X8_read (wsV RX8 128 RX8 yX8_recordOf wp_X8_recordAny) := goodIn_p _ [10] rfl (by decide +kernel)
set_option maxRecDepth 20000 in
theorem gp_X8_read_X8_makeOf_136 : GoodIn wp_X8_read (wsS RX8 136 yX8_makeOf wp_X8_makeOf) := goodIn_p _ [12] rfl (by decide +kernel)
set_option maxHeartbeats 4000000 in
set_option maxRecDepth 100000 in
theorem c_X8_read (l : Launch) (dC : Nat → ClassId) (dI : Nat → Nat → Nat) (h0 : Nat) (t0 : Nat) (r0 : Nat) (m0 : Nat) (x0 : Nat) (v4 : Value) (v5 : Value) (v6 : Value) (v7 : Value) (v8 : Value) (cM : ClassId) (cR : ClassId) (fR : Nat → Option Nat) (p0 : Int32) (p1 : Int32) (sz : Nat) : Met l yX8_read wp_X8_read ({ frames := 1, cells := 0, slots := 0, locals := 25 }) (va_Pc [.ref h0, .int p0, .int p1] (Pr (dC, dI) [(cM, .object RX1), (cR, .object RX5)] [(h0, .inr (10, [.ref t0, .ref r0, .ref m0, .ref x0, v4, v5, v6, v7, v8, .int 0, .int ((-1)), .int 0])), (m0, .inl (cM, 8, .inr (.inr (.inr (.inr (fun _ => none)))))), (r0, .inl (cR, 4, .inr (.inr (.inr (.inr fR)))))] sz)) (va_Qi (fun r : Int32 => (fun _ : Unit => r = -2)) (Bq (dC, dI) (fun _ : Unit => []) (fun _ : Unit => []) (va_A [(h0, .inr (10, [.ref t0, .ref r0, .ref m0, .ref x0, v4, v5, v6, v7, v8, .int 0, .int ((-1)), .int 0])), (m0, .inl (cM, 8, .inr (.inr (.inr (.inr (fun _ => none)))))), (r0, .inl (cR, 4, .inr (.inr (.inr (.inr fR)))))] sz)) (va_A [(h0, .inr (10, [.ref t0, .ref r0, .ref m0, .ref x0, v4, v5, v6, v7, v8, .int 0, .int ((-1)), .int 0])), (m0, .inl (cM, 8, .inr (.inr (.inr (.inr (fun _ => none)))))), (r0, .inl (cR, 4, .inr (.inr (.inr (.inr fR)))))] sz)) 0 0 (va_A [(h0, .inr (10, [.ref t0, .ref r0, .ref m0, .ref x0, v4, v5, v6, v7, v8, .int 0, .int ((-1)), .int 0])), (m0, .inl (cM, 8, .inr (.inr (.inr (.inr (fun _ => none)))))), (r0, .inl (cR, 4, .inr (.inr (.inr (.inr fR)))))] sz) := by
  refine Met.ofW (cc := cX8_read) (maxL := 5) (ret := (some .int)) (by decide) rfl ?_
  intro p e s m args below meth c s₁ B hml hv
  obtain ⟨rfl, hsz, hP, hK, hD0, hN, hZ⟩ := hv
  have hx := B.exec
  have hb := B.bytes
  have hr := B.returns
  have hts := atoms_spec (ws := wp_X8_read) B.pre
  have hown : s.vm.findClass RX8 = some m.cls := findClass_of_methodNamed B.named
  have hlocks := B.notSynchronized
  have iRX8 : ∀ w ∈ u_ws RX8 TX8 12, w ∈ wp_X8_read := by decide +kernel
  subst hsz
  have hD := hD0.self (sz := s.heap.size)
  generalize hAe : va_A [(h0, .inr (10, [.ref t0, .ref r0, .ref m0, .ref x0, v4, v5, v6, v7, v8, .int 0, .int ((-1)), .int 0])), (m0, .inl (cM, 8, .inr (.inr (.inr (.inr (fun _ => none)))))), (r0, .inl (cR, 4, .inr (.inr (.inr (.inr fR)))))] s.heap.size = A at hD hZ ⊢
  have hA : ∀ q : Nat, s.heap.size ≤ q → A q := fun q h => by rw [← hAe]; exact Or.inr h
  have hS : va_S A s.heap s.heap [] := va_S.rf
  have hP : va_P (dC, dI) vwCl [(h0, .inr (10, [.ref t0, .ref r0, .ref m0, .ref x0, v4, v5, v6, v7, v8, .int 0, .int ((-1)), .int 0])), (m0, .inl (cM, 8, .inr (.inr (.inr (.inr (fun _ => none)))))), (r0, .inl (cR, 4, .inr (.inr (.inr (.inr fR)))))] s.heap := hP
  have hl := lv_entry ([.ref h0, .int p0, .int p1]) (n := 5) (Nat.le_of_ble_eq_true rfl)
  rw [lg_entry_eq]
  generalize (lg_sl ([.ref h0, .int p0, .int p1]) ++ List.replicate (5 - (lg_sl ([.ref h0, .int p0, .int p1])).length) Slot.unset).toArray = ls at hl ⊢
  have hl : lv_has ls 5 [(0, .ref h0), (1, .int p0), (2, .int p1)] := hl
  refine lv_aload_n hx hb dX8_read_0 rfl (lv_at hl 0 rfl) ?_
  refine lv_iload_n hx hb dX8_read_1 rfl (lv_at hl 1 rfl) ?_
  have hFc := va_free (wc := [(h0, .inr (10, [.ref t0, .ref r0, .ref m0, .ref x0, v4, v5, v6, v7, v8, .int 0, .int ((-1)), .int 0])), (r0, .inl (cR, 4, .inr (.inr (.inr (.inr fR)))))]) hD hS hA [0, 2] rfl
  refine va_callq (va_runV (As := [.int p0]) (rest := []) ⟨hx, hb, hml, hown, hts⟩ (c_X8_recordAny l dC dI h0 t0 r0 m0 x0 (v4) (v5) (v6) (v7) (v8) cR fR p0 s.heap.size) (cwV 1 hts gp_X8_read_X8_recordAny_128 rfl rfl rfl (by decide +kernel) ⟨Nat.le_of_ble_eq_true rfl, Nat.le_of_ble_eq_true rfl⟩) ⟨Pr.blind _, va_recv hK hP (ci := 10) (q0 := 0) rfl rfl, fun U hU hW => ⟨rfl, Pr.at (hP.sub (ws' := [(h0, .inr (10, [.ref t0, .ref r0, .ref m0, .ref x0, v4, v5, v6, v7, v8, .int 0, .int ((-1)), .int 0])), (r0, .inl (cR, 4, .inr (.inr (.inr (.inr fR)))))]) [0, 2] rfl) (hK.sub (tys' := [(cR, .object RX5)]) [1] rfl) (hD.sub (ws' := [(h0, .inr (10, [.ref t0, .ref r0, .ref m0, .ref x0, v4, v5, v6, v7, v8, .int 0, .int ((-1)), .int 0])), (r0, .inl (cR, 4, .inr (.inr (.inr (.inr fR)))))]) [0, 2] (by decide) rfl) hN hZ hS hFc hU hW⟩⟩ rfl rfl hl.1 rfl (lv_room (Nat.le_of_ble_eq_true rfl)) dX8_read_2 ⟨Nat.le_of_ble_eq_true rfl, Nat.le_of_ble_eq_true rfl⟩) hS (fun q _ h => hFc q h) hFc (fun r_1 u t H1 locs ht hvm hw_2 hB hz1 hk1 hS => ?_)
  obtain ⟨hP, hD, hK⟩ := Bq.join (wr := [(m0, .inl (cM, 8, .inr (.inr (.inr (.inr (fun _ => none))))))]) hB ht hvm hP hD [0, 2] [1] rfl rfl (by decide) (by decide) hk1 hFc hK
  generalize H1 = H at hP hS ⊢
  have hP : va_P (dC, dI) vwCl [(m0, .inl (cM, 8, .inr (.inr (.inr (.inr (fun _ => none)))))), (h0, .inr (10, [.ref t0, .ref r0, .ref m0, .ref x0, v4, v5, v6, v7, v8, .int 0, .int (-1), .int 0])), (r0, .inl (cR, 4, .inr (.inr (.inr (.inr fR)))))] H := hP
  have hD : va_D A [(m0, .inl (cM, 8, .inr (.inr (.inr (.inr (fun _ => none)))))), (h0, .inr (10, [.ref t0, .ref r0, .ref m0, .ref x0, v4, v5, v6, v7, v8, .int 0, .int (-1), .int 0])), (r0, .inl (cR, 4, .inr (.inr (.inr (.inr fR)))))] := hD
  have hK : va_K (dC, dI) vwCl [(cM, .object RX1), (cR, .object RX5)] s := hK
  try dsimp only at hw_2
  rcases r_1 with _ | a_3
  · refine W.eq (g2 := F0 m 5 ls [.null]) rfl ?_
    refine lv_astore_nN (lv' := [(3, .null), (0, .ref h0), (1, .int p0), (2, .int p1)]) hx hb dX8_read_5 rfl hl (by decide) rfl (fun ls hl => ?_)
    refine lv_aload_n hx hb dX8_read_6 rfl (lv_at hl 1 rfl) ?_
    refine va_get (D := (dC, dI)) (ci := 10) (v := .ref m0) (C := RX8) (T := TX8) (N := 12) hx hb hts iRX8 hown hK hP 1 rfl rfl 2 (by decide) (hts (.fieldLink RX8 24 "RecordBench" "makes" "[LRecordBench$Make;") (by decide +kernel)) (fun _ h9 => h9) rfl dX8_read_7 ?_
    refine lv_iload_n hx hb dX8_read_10 rfl (lv_at hl 3 rfl) ?_
    have hFc := va_free (wc := [(m0, .inl (cM, 8, .inr (.inr (.inr (.inr (fun _ => none))))))]) hD hS hA [0] rfl
    refine va_callq (va_runS (As := [.ref m0, .int p1]) (rest := []) ⟨hx, hb, hml, hown, hts⟩ (c_X8_makeOf l dC dI m0 p1 cM H.size) (cwS 2 hts gp_X8_read_X8_makeOf_136 rfl rfl rfl (by decide +kernel) ⟨Nat.le_of_ble_eq_true rfl, Nat.le_of_ble_eq_true rfl⟩) ⟨Pr.blind _, fun U hU hW => ⟨rfl, Pr.at (hP.sub (ws' := [(m0, .inl (cM, 8, .inr (.inr (.inr (.inr (fun _ => none))))))]) [0] rfl) (hK.sub (tys' := [(cM, .object RX1)]) [0] rfl) (hD.sub (ws' := [(m0, .inl (cM, 8, .inr (.inr (.inr (.inr (fun _ => none))))))]) [0] (by decide) rfl) hN hZ hS hFc hU hW⟩⟩ rfl rfl hl.1 rfl (lv_room (Nat.le_of_ble_eq_true rfl)) dX8_read_11 ⟨Nat.le_of_ble_eq_true rfl, Nat.le_of_ble_eq_true rfl⟩) hS (fun q _ h => hFc q h) hFc (fun r_4 u t H1 locs ht hvm hw_5 hB hz1 hk1 hS => ?_)
    obtain ⟨hP, hD, hK⟩ := Bq.join (wr := [(h0, .inr (10, [.ref t0, .ref r0, .ref m0, .ref x0, v4, v5, v6, v7, v8, .int 0, .int (-1), .int 0])), (r0, .inl (cR, 4, .inr (.inr (.inr (.inr fR)))))]) hB ht hvm hP hD [0] [1, 2] rfl rfl (by decide) (by decide) hk1 hFc hK
    generalize H1 = H at hP hS ⊢
    have hP : va_P (dC, dI) vwCl [(h0, .inr (10, [.ref t0, .ref r0, .ref m0, .ref x0, v4, v5, v6, v7, v8, .int 0, .int (-1), .int 0])), (r0, .inl (cR, 4, .inr (.inr (.inr (.inr fR))))), (m0, .inl (cM, 8, .inr (.inr (.inr (.inr (fun _ => none))))))] H := hP
    have hD : va_D A [(h0, .inr (10, [.ref t0, .ref r0, .ref m0, .ref x0, v4, v5, v6, v7, v8, .int 0, .int (-1), .int 0])), (r0, .inl (cR, 4, .inr (.inr (.inr (.inr fR))))), (m0, .inl (cM, 8, .inr (.inr (.inr (.inr (fun _ => none))))))] := hD
    have hK : va_K (dC, dI) vwCl [(cM, .object RX1), (cR, .object RX5)] s := hK
    try dsimp only at hw_5
    have k_6 := hw_5
    subst k_6
    refine W.eq (g2 := F0 m 14 ls [.null]) rfl ?_
    refine lv_astoreN (lv' := [(4, .null), (3, .null), (0, .ref h0), (1, .int p0), (2, .int p1)]) hx hb dX8_read_14 hl (by decide) rfl (fun ls hl => ?_)
    refine lv_aload_n hx hb dX8_read_16 rfl (lv_at hl 2 rfl) ?_
    refine lv_iconst (v := 0) hx hb dX8_read_17 (by decide) ?_
    refine va_put (D := (dC, dI)) (ci := 10) (v := .int 0) (ty := .int) (C := RX8) (T := TX8) (N := 12) hx hb hts iRX8 tyX8 tyX8_ok nmX8 hown hK hP hD hS 0 rfl rfl 9 (by decide) (hts (.fieldLink RX8 66 "RecordBench" "latestFault" "I") (by decide +kernel)) (fun _ h9 => h9) rfl (by decide +kernel) rfl rfl (Nat.le_of_ble_eq_true rfl) dX8_read_18 (fun H locs hP hD hS => ?_)
    have hP : va_P (dC, dI) vwCl [(h0, .inr (10, [.ref t0, .ref r0, .ref m0, .ref x0, v4, v5, v6, v7, v8, .int 0, .int (-1), .int 0])), (r0, .inl (cR, 4, .inr (.inr (.inr (.inr fR))))), (m0, .inl (cM, 8, .inr (.inr (.inr (.inr (fun _ => none))))))] H := hP
    have hD : va_D A [(h0, .inr (10, [.ref t0, .ref r0, .ref m0, .ref x0, v4, v5, v6, v7, v8, .int 0, .int (-1), .int 0])), (r0, .inl (cR, 4, .inr (.inr (.inr (.inr fR))))), (m0, .inl (cM, 8, .inr (.inr (.inr (.inr (fun _ => none))))))] := hD
    refine lv_aload_n hx hb dX8_read_21 rfl (lv_at hl 2 rfl) ?_
    refine lv_iconst (v := (-1)) hx hb dX8_read_22 (by decide) ?_
    refine va_put (D := (dC, dI)) (ci := 10) (v := .int ((-1))) (ty := .int) (C := RX8) (T := TX8) (N := 12) hx hb hts iRX8 tyX8 tyX8_ok nmX8 hown hK hP hD hS 0 rfl rfl 10 (by decide) (hts (.fieldLink RX8 70 "RecordBench" "latestPlace" "I") (by decide +kernel)) (fun _ h9 => h9) rfl (by decide +kernel) rfl rfl (Nat.le_of_ble_eq_true rfl) dX8_read_23 (fun H locs hP hD hS => ?_)
    have hP : va_P (dC, dI) vwCl [(h0, .inr (10, [.ref t0, .ref r0, .ref m0, .ref x0, v4, v5, v6, v7, v8, .int 0, .int ((-1)), .int 0])), (r0, .inl (cR, 4, .inr (.inr (.inr (.inr fR))))), (m0, .inl (cM, 8, .inr (.inr (.inr (.inr (fun _ => none))))))] H := hP
    have hD : va_D A [(h0, .inr (10, [.ref t0, .ref r0, .ref m0, .ref x0, v4, v5, v6, v7, v8, .int 0, .int ((-1)), .int 0])), (r0, .inl (cR, 4, .inr (.inr (.inr (.inr fR))))), (m0, .inl (cM, 8, .inr (.inr (.inr (.inr (fun _ => none))))))] := hD
    refine lv_aload_nN hx hb dX8_read_26 rfl (lv_at hl 1 rfl) ?_
    refine lv_ifnullN (tgt := 35) hx hb dX8_read_27 (by decide) ?_
    refine lv_bipush (v := (-2)) hx hb dX8_read_35 (by decide) ?_
    have hP9 := hP.sub (ws' := []) [] rfl
    have hD9 := hD.sub (ws' := []) [] (by decide) rfl
    have hK9 := hK.sub (tys' := []) [] rfl
    exact W.iret (v := (-2)) hx hb hr (fun t ht hW => ⟨⟨(-2), (), rfl, rfl, by rw [ht]; exact hP9, va_K.moved hW.alike hK9, hD9⟩, hS.F ht⟩) hS.2.2 dX8_read_37
  · refine W.eq (g2 := F0 m 5 ls [.ref a_3]) rfl ?_
    refine lv_astore_n (lv' := [(3, .ref a_3), (0, .ref h0), (1, .int p0), (2, .int p1)]) hx hb dX8_read_5 rfl hl (by decide) rfl (fun ls hl => ?_)
    refine lv_aload_n hx hb dX8_read_6 rfl (lv_at hl 1 rfl) ?_
    refine va_get (D := (dC, dI)) (ci := 10) (v := .ref m0) (C := RX8) (T := TX8) (N := 12) hx hb hts iRX8 hown hK hP 1 rfl rfl 2 (by decide) (hts (.fieldLink RX8 24 "RecordBench" "makes" "[LRecordBench$Make;") (by decide +kernel)) (fun _ h9 => h9) rfl dX8_read_7 ?_
    refine lv_iload_n hx hb dX8_read_10 rfl (lv_at hl 3 rfl) ?_
    have hFc := va_free (wc := [(m0, .inl (cM, 8, .inr (.inr (.inr (.inr (fun _ => none))))))]) hD hS hA [0] rfl
    refine va_callq (va_runS (As := [.ref m0, .int p1]) (rest := []) ⟨hx, hb, hml, hown, hts⟩ (c_X8_makeOf l dC dI m0 p1 cM H.size) (cwS 2 hts gp_X8_read_X8_makeOf_136 rfl rfl rfl (by decide +kernel) ⟨Nat.le_of_ble_eq_true rfl, Nat.le_of_ble_eq_true rfl⟩) ⟨Pr.blind _, fun U hU hW => ⟨rfl, Pr.at (hP.sub (ws' := [(m0, .inl (cM, 8, .inr (.inr (.inr (.inr (fun _ => none))))))]) [0] rfl) (hK.sub (tys' := [(cM, .object RX1)]) [0] rfl) (hD.sub (ws' := [(m0, .inl (cM, 8, .inr (.inr (.inr (.inr (fun _ => none))))))]) [0] (by decide) rfl) hN hZ hS hFc hU hW⟩⟩ rfl rfl hl.1 rfl (lv_room (Nat.le_of_ble_eq_true rfl)) dX8_read_11 ⟨Nat.le_of_ble_eq_true rfl, Nat.le_of_ble_eq_true rfl⟩) hS (fun q _ h => hFc q h) hFc (fun r_7 u t H1 locs ht hvm hw_8 hB hz1 hk1 hS => ?_)
    obtain ⟨hP, hD, hK⟩ := Bq.join (wr := [(h0, .inr (10, [.ref t0, .ref r0, .ref m0, .ref x0, v4, v5, v6, v7, v8, .int 0, .int (-1), .int 0])), (r0, .inl (cR, 4, .inr (.inr (.inr (.inr fR)))))]) hB ht hvm hP hD [0] [1, 2] rfl rfl (by decide) (by decide) hk1 hFc hK
    generalize H1 = H at hP hS ⊢
    have hP : va_P (dC, dI) vwCl [(h0, .inr (10, [.ref t0, .ref r0, .ref m0, .ref x0, v4, v5, v6, v7, v8, .int 0, .int (-1), .int 0])), (r0, .inl (cR, 4, .inr (.inr (.inr (.inr fR))))), (m0, .inl (cM, 8, .inr (.inr (.inr (.inr (fun _ => none))))))] H := hP
    have hD : va_D A [(h0, .inr (10, [.ref t0, .ref r0, .ref m0, .ref x0, v4, v5, v6, v7, v8, .int 0, .int (-1), .int 0])), (r0, .inl (cR, 4, .inr (.inr (.inr (.inr fR))))), (m0, .inl (cM, 8, .inr (.inr (.inr (.inr (fun _ => none))))))] := hD
    have hK : va_K (dC, dI) vwCl [(cM, .object RX1), (cR, .object RX5)] s := hK
    try dsimp only at hw_8
    have k_9 := hw_8
    subst k_9
    refine W.eq (g2 := F0 m 14 ls [.null]) rfl ?_
    refine lv_astoreN (lv' := [(4, .null), (3, .ref a_3), (0, .ref h0), (1, .int p0), (2, .int p1)]) hx hb dX8_read_14 hl (by decide) rfl (fun ls hl => ?_)
    refine lv_aload_n hx hb dX8_read_16 rfl (lv_at hl 2 rfl) ?_
    refine lv_iconst (v := 0) hx hb dX8_read_17 (by decide) ?_
    refine va_put (D := (dC, dI)) (ci := 10) (v := .int 0) (ty := .int) (C := RX8) (T := TX8) (N := 12) hx hb hts iRX8 tyX8 tyX8_ok nmX8 hown hK hP hD hS 0 rfl rfl 9 (by decide) (hts (.fieldLink RX8 66 "RecordBench" "latestFault" "I") (by decide +kernel)) (fun _ h9 => h9) rfl (by decide +kernel) rfl rfl (Nat.le_of_ble_eq_true rfl) dX8_read_18 (fun H locs hP hD hS => ?_)
    have hP : va_P (dC, dI) vwCl [(h0, .inr (10, [.ref t0, .ref r0, .ref m0, .ref x0, v4, v5, v6, v7, v8, .int 0, .int (-1), .int 0])), (r0, .inl (cR, 4, .inr (.inr (.inr (.inr fR))))), (m0, .inl (cM, 8, .inr (.inr (.inr (.inr (fun _ => none))))))] H := hP
    have hD : va_D A [(h0, .inr (10, [.ref t0, .ref r0, .ref m0, .ref x0, v4, v5, v6, v7, v8, .int 0, .int (-1), .int 0])), (r0, .inl (cR, 4, .inr (.inr (.inr (.inr fR))))), (m0, .inl (cM, 8, .inr (.inr (.inr (.inr (fun _ => none))))))] := hD
    refine lv_aload_n hx hb dX8_read_21 rfl (lv_at hl 2 rfl) ?_
    refine lv_iconst (v := (-1)) hx hb dX8_read_22 (by decide) ?_
    refine va_put (D := (dC, dI)) (ci := 10) (v := .int ((-1))) (ty := .int) (C := RX8) (T := TX8) (N := 12) hx hb hts iRX8 tyX8 tyX8_ok nmX8 hown hK hP hD hS 0 rfl rfl 10 (by decide) (hts (.fieldLink RX8 70 "RecordBench" "latestPlace" "I") (by decide +kernel)) (fun _ h9 => h9) rfl (by decide +kernel) rfl rfl (Nat.le_of_ble_eq_true rfl) dX8_read_23 (fun H locs hP hD hS => ?_)
    have hP : va_P (dC, dI) vwCl [(h0, .inr (10, [.ref t0, .ref r0, .ref m0, .ref x0, v4, v5, v6, v7, v8, .int 0, .int ((-1)), .int 0])), (r0, .inl (cR, 4, .inr (.inr (.inr (.inr fR))))), (m0, .inl (cM, 8, .inr (.inr (.inr (.inr (fun _ => none))))))] H := hP
    have hD : va_D A [(h0, .inr (10, [.ref t0, .ref r0, .ref m0, .ref x0, v4, v5, v6, v7, v8, .int 0, .int ((-1)), .int 0])), (r0, .inl (cR, 4, .inr (.inr (.inr (.inr fR))))), (m0, .inl (cM, 8, .inr (.inr (.inr (.inr (fun _ => none))))))] := hD
    refine lv_aload_n hx hb dX8_read_26 rfl (lv_at hl 1 rfl) ?_
    refine lv_ifnull hx hb dX8_read_27 ?_
    refine lv_aloadN hx hb dX8_read_30 (lv_at hl 0 rfl) ?_
    refine lv_ifnonnullN hx hb dX8_read_32 ?_
    refine lv_bipush (v := (-2)) hx hb dX8_read_35 (by decide) ?_
    have hP9 := hP.sub (ws' := []) [] rfl
    have hD9 := hD.sub (ws' := []) [] (by decide) rfl
    have hK9 := hK.sub (tys' := []) [] rfl
    exact W.iret (v := (-2)) hx hb hr (fun t ht hW => ⟨⟨(-2), (), rfl, rfl, by rw [ht]; exact hP9, va_K.moved hW.alike hK9, hD9⟩, hS.F ht⟩) hS.2.2 dX8_read_37
def wp_X8_get : List Cond := .code yX8_get cX8_get 9 (some .long) :: ([.methodLink RX8 128 yX8_recordOf, .instanceMethod yX8_recordOf, .selects RX8 yX8_recordOf yX8_recordOf, .initialized RX8, .fieldLink RX8 24 "RecordBench" "makes" "[LRecordBench$Make;", .methodLink RX8 136 yX8_makeOf, .static yX8_makeOf, .methodLink RX8 100 yX8_fieldOf, .instanceMethod yX8_fieldOf, .selects RX8 yX8_fieldOf yX8_fieldOf, .constantLong RX8 184 (-9000000000000000000), .code yX8_recordOf cX8_recordOf 2 (some (.object "RecordBench$Row")), .fieldLink RX8 18 "RecordBench" "records" "[LRecordBench$Row;", .code yX8_makeOf cX8_makeOf 2 (some (.object "RecordBench$Make")), .code yX8_fieldOf cX8_fieldOf 4 (some (.object "RecordBench$Field"))] ++ wsX80)
set_option maxRecDepth 20000 in
theorem gp_X8_get_X8_recordAny_128 : GoodIn wp_X8_get (wsV RX8 128 RX8 yX8_recordOf wp_X8_recordAny) := goodIn_p _ [12] rfl (by decide +kernel)
set_option maxRecDepth 20000 in
theorem gp_X8_get_X8_makeOf_136 : GoodIn wp_X8_get (wsS RX8 136 yX8_makeOf wp_X8_makeOf) := goodIn_p _ [14] rfl (by decide +kernel)
set_option maxRecDepth 20000 in
theorem gp_X8_get_X8_fieldOf_100 : GoodIn wp_X8_get (wsV RX8 100 RX8 yX8_fieldOf wp_X8_fieldOf) := goodIn_p _ [15, 14] rfl (by decide +kernel)
set_option maxHeartbeats 4000000 in
set_option maxRecDepth 100000 in
theorem c_X8_get (l : Launch) (dC : Nat → ClassId) (dI : Nat → Nat → Nat) (h0 : Nat) (t0 : Nat) (r0 : Nat) (m0 : Nat) (x0 : Nat) (v4 : Value) (v5 : Value) (v6 : Value) (v7 : Value) (v8 : Value) (cM : ClassId) (cR : ClassId) (fR : Nat → Option Nat) (p0 : Int32) (p1 : Int32) (p2 : Int32) (p3 : Int32) (sz : Nat) : Met l yX8_get wp_X8_get ({ frames := 2, cells := 0, slots := 0, locals := 52 }) (va_Pc [.ref h0, .int p0, .int p1, .int p2, .int p3] (Pr (dC, dI) [(cM, .object RX1), (cR, .object RX5)] [(h0, .inr (10, [.ref t0, .ref r0, .ref m0, .ref x0, v4, v5, v6, v7, v8, .int 0, .int ((-1)), .int 0])), (m0, .inl (cM, 8, .inr (.inr (.inr (.inr (fun _ => none)))))), (r0, .inl (cR, 4, .inr (.inr (.inr (.inr fR)))))] sz)) (va_Ql (fun r : Int64 => (fun _ : Unit => r = -9000000000000000000)) (Bq (dC, dI) (fun _ : Unit => []) (fun _ : Unit => []) (va_A [(h0, .inr (10, [.ref t0, .ref r0, .ref m0, .ref x0, v4, v5, v6, v7, v8, .int 0, .int ((-1)), .int 0])), (m0, .inl (cM, 8, .inr (.inr (.inr (.inr (fun _ => none)))))), (r0, .inl (cR, 4, .inr (.inr (.inr (.inr fR)))))] sz)) (va_A [(h0, .inr (10, [.ref t0, .ref r0, .ref m0, .ref x0, v4, v5, v6, v7, v8, .int 0, .int ((-1)), .int 0])), (m0, .inl (cM, 8, .inr (.inr (.inr (.inr (fun _ => none)))))), (r0, .inl (cR, 4, .inr (.inr (.inr (.inr fR)))))] sz)) 0 0 (va_A [(h0, .inr (10, [.ref t0, .ref r0, .ref m0, .ref x0, v4, v5, v6, v7, v8, .int 0, .int ((-1)), .int 0])), (m0, .inl (cM, 8, .inr (.inr (.inr (.inr (fun _ => none)))))), (r0, .inl (cR, 4, .inr (.inr (.inr (.inr fR)))))] sz) := by
  refine Met.ofW (cc := cX8_get) (maxL := 9) (ret := (some .long)) (by decide) rfl ?_
  intro p e s m args below meth c s₁ B hml hv
  obtain ⟨rfl, hsz, hP, hK, hD0, hN, hZ⟩ := hv
  have hx := B.exec
  have hb := B.bytes
  have hr := B.returns
  have hts := atoms_spec (ws := wp_X8_get) B.pre
  have hown : s.vm.findClass RX8 = some m.cls := findClass_of_methodNamed B.named
  have hlocks := B.notSynchronized
  have iRX8 : ∀ w ∈ u_ws RX8 TX8 12, w ∈ wp_X8_get := by decide +kernel
  subst hsz
  have hD := hD0.self (sz := s.heap.size)
  generalize hAe : va_A [(h0, .inr (10, [.ref t0, .ref r0, .ref m0, .ref x0, v4, v5, v6, v7, v8, .int 0, .int ((-1)), .int 0])), (m0, .inl (cM, 8, .inr (.inr (.inr (.inr (fun _ => none)))))), (r0, .inl (cR, 4, .inr (.inr (.inr (.inr fR)))))] s.heap.size = A at hD hZ ⊢
  have hA : ∀ q : Nat, s.heap.size ≤ q → A q := fun q h => by rw [← hAe]; exact Or.inr h
  have hS : va_S A s.heap s.heap [] := va_S.rf
  have hP : va_P (dC, dI) vwCl [(h0, .inr (10, [.ref t0, .ref r0, .ref m0, .ref x0, v4, v5, v6, v7, v8, .int 0, .int ((-1)), .int 0])), (m0, .inl (cM, 8, .inr (.inr (.inr (.inr (fun _ => none)))))), (r0, .inl (cR, 4, .inr (.inr (.inr (.inr fR)))))] s.heap := hP
  have hl := lv_entry ([.ref h0, .int p0, .int p1, .int p2, .int p3]) (n := 9) (Nat.le_of_ble_eq_true rfl)
  rw [lg_entry_eq]
  generalize (lg_sl ([.ref h0, .int p0, .int p1, .int p2, .int p3]) ++ List.replicate (9 - (lg_sl ([.ref h0, .int p0, .int p1, .int p2, .int p3])).length) Slot.unset).toArray = ls at hl ⊢
  have hl : lv_has ls 9 [(0, .ref h0), (1, .int p0), (2, .int p1), (3, .int p2), (4, .int p3)] := hl
  refine lv_aload_n hx hb dX8_get_0 rfl (lv_at hl 0 rfl) ?_
  refine lv_iload_n hx hb dX8_get_1 rfl (lv_at hl 1 rfl) ?_
  have hFc := va_free (wc := [(h0, .inr (10, [.ref t0, .ref r0, .ref m0, .ref x0, v4, v5, v6, v7, v8, .int 0, .int ((-1)), .int 0])), (r0, .inl (cR, 4, .inr (.inr (.inr (.inr fR)))))]) hD hS hA [0, 2] rfl
  refine va_callq (va_runV (As := [.int p0]) (rest := []) ⟨hx, hb, hml, hown, hts⟩ (c_X8_recordAny l dC dI h0 t0 r0 m0 x0 (v4) (v5) (v6) (v7) (v8) cR fR p0 s.heap.size) (cwV 1 hts gp_X8_get_X8_recordAny_128 rfl rfl rfl (by decide +kernel) ⟨Nat.le_of_ble_eq_true rfl, Nat.le_of_ble_eq_true rfl⟩) ⟨Pr.blind _, va_recv hK hP (ci := 10) (q0 := 0) rfl rfl, fun U hU hW => ⟨rfl, Pr.at (hP.sub (ws' := [(h0, .inr (10, [.ref t0, .ref r0, .ref m0, .ref x0, v4, v5, v6, v7, v8, .int 0, .int ((-1)), .int 0])), (r0, .inl (cR, 4, .inr (.inr (.inr (.inr fR)))))]) [0, 2] rfl) (hK.sub (tys' := [(cR, .object RX5)]) [1] rfl) (hD.sub (ws' := [(h0, .inr (10, [.ref t0, .ref r0, .ref m0, .ref x0, v4, v5, v6, v7, v8, .int 0, .int ((-1)), .int 0])), (r0, .inl (cR, 4, .inr (.inr (.inr (.inr fR)))))]) [0, 2] (by decide) rfl) hN hZ hS hFc hU hW⟩⟩ rfl rfl hl.1 rfl (lv_room (Nat.le_of_ble_eq_true rfl)) dX8_get_2 ⟨Nat.le_of_ble_eq_true rfl, Nat.le_of_ble_eq_true rfl⟩) hS (fun q _ h => hFc q h) hFc (fun r_1 u t H1 locs ht hvm hw_2 hB hz1 hk1 hS => ?_)
  obtain ⟨hP, hD, hK⟩ := Bq.join (wr := [(m0, .inl (cM, 8, .inr (.inr (.inr (.inr (fun _ => none))))))]) hB ht hvm hP hD [0, 2] [1] rfl rfl (by decide) (by decide) hk1 hFc hK
  generalize H1 = H at hP hS ⊢
  have hP : va_P (dC, dI) vwCl [(m0, .inl (cM, 8, .inr (.inr (.inr (.inr (fun _ => none)))))), (h0, .inr (10, [.ref t0, .ref r0, .ref m0, .ref x0, v4, v5, v6, v7, v8, .int 0, .int (-1), .int 0])), (r0, .inl (cR, 4, .inr (.inr (.inr (.inr fR)))))] H := hP
  have hD : va_D A [(m0, .inl (cM, 8, .inr (.inr (.inr (.inr (fun _ => none)))))), (h0, .inr (10, [.ref t0, .ref r0, .ref m0, .ref x0, v4, v5, v6, v7, v8, .int 0, .int (-1), .int 0])), (r0, .inl (cR, 4, .inr (.inr (.inr (.inr fR)))))] := hD
  have hK : va_K (dC, dI) vwCl [(cM, .object RX1), (cR, .object RX5)] s := hK
  try dsimp only at hw_2
  rcases r_1 with _ | a_3
  · refine W.eq (g2 := F0 m 5 ls [.null]) rfl ?_
    refine lv_astoreN (lv' := [(5, .null), (0, .ref h0), (1, .int p0), (2, .int p1), (3, .int p2), (4, .int p3)]) hx hb dX8_get_5 hl (by decide) rfl (fun ls hl => ?_)
    refine lv_aload_n hx hb dX8_get_7 rfl (lv_at hl 1 rfl) ?_
    refine va_get (D := (dC, dI)) (ci := 10) (v := .ref m0) (C := RX8) (T := TX8) (N := 12) hx hb hts iRX8 hown hK hP 1 rfl rfl 2 (by decide) (hts (.fieldLink RX8 24 "RecordBench" "makes" "[LRecordBench$Make;") (by decide +kernel)) (fun _ h9 => h9) rfl dX8_get_8 ?_
    refine lv_iload_n hx hb dX8_get_11 rfl (lv_at hl 3 rfl) ?_
    have hFc := va_free (wc := [(m0, .inl (cM, 8, .inr (.inr (.inr (.inr (fun _ => none))))))]) hD hS hA [0] rfl
    refine va_callq (va_runS (As := [.ref m0, .int p1]) (rest := []) ⟨hx, hb, hml, hown, hts⟩ (c_X8_makeOf l dC dI m0 p1 cM H.size) (cwS 2 hts gp_X8_get_X8_makeOf_136 rfl rfl rfl (by decide +kernel) ⟨Nat.le_of_ble_eq_true rfl, Nat.le_of_ble_eq_true rfl⟩) ⟨Pr.blind _, fun U hU hW => ⟨rfl, Pr.at (hP.sub (ws' := [(m0, .inl (cM, 8, .inr (.inr (.inr (.inr (fun _ => none))))))]) [0] rfl) (hK.sub (tys' := [(cM, .object RX1)]) [0] rfl) (hD.sub (ws' := [(m0, .inl (cM, 8, .inr (.inr (.inr (.inr (fun _ => none))))))]) [0] (by decide) rfl) hN hZ hS hFc hU hW⟩⟩ rfl rfl hl.1 rfl (lv_room (Nat.le_of_ble_eq_true rfl)) dX8_get_12 ⟨Nat.le_of_ble_eq_true rfl, Nat.le_of_ble_eq_true rfl⟩) hS (fun q _ h => hFc q h) hFc (fun r_4 u t H1 locs ht hvm hw_5 hB hz1 hk1 hS => ?_)
    obtain ⟨hP, hD, hK⟩ := Bq.join (wr := [(h0, .inr (10, [.ref t0, .ref r0, .ref m0, .ref x0, v4, v5, v6, v7, v8, .int 0, .int (-1), .int 0])), (r0, .inl (cR, 4, .inr (.inr (.inr (.inr fR)))))]) hB ht hvm hP hD [0] [1, 2] rfl rfl (by decide) (by decide) hk1 hFc hK
    generalize H1 = H at hP hS ⊢
    have hP : va_P (dC, dI) vwCl [(h0, .inr (10, [.ref t0, .ref r0, .ref m0, .ref x0, v4, v5, v6, v7, v8, .int 0, .int (-1), .int 0])), (r0, .inl (cR, 4, .inr (.inr (.inr (.inr fR))))), (m0, .inl (cM, 8, .inr (.inr (.inr (.inr (fun _ => none))))))] H := hP
    have hD : va_D A [(h0, .inr (10, [.ref t0, .ref r0, .ref m0, .ref x0, v4, v5, v6, v7, v8, .int 0, .int (-1), .int 0])), (r0, .inl (cR, 4, .inr (.inr (.inr (.inr fR))))), (m0, .inl (cM, 8, .inr (.inr (.inr (.inr (fun _ => none))))))] := hD
    have hK : va_K (dC, dI) vwCl [(cM, .object RX1), (cR, .object RX5)] s := hK
    try dsimp only at hw_5
    have k_6 := hw_5
    subst k_6
    refine W.eq (g2 := F0 m 15 ls [.null]) rfl ?_
    refine lv_astoreN (lv' := [(6, .null), (5, .null), (0, .ref h0), (1, .int p0), (2, .int p1), (3, .int p2), (4, .int p3)]) hx hb dX8_get_15 hl (by decide) rfl (fun ls hl => ?_)
    refine lv_aload_n hx hb dX8_get_17 rfl (lv_at hl 2 rfl) ?_
    refine lv_iload_n hx hb dX8_get_18 rfl (lv_at hl 4 rfl) ?_
    refine lv_iload_n hx hb dX8_get_19 rfl (lv_at hl 5 rfl) ?_
    have hFc := va_free (wc := [(h0, .inr (10, [.ref t0, .ref r0, .ref m0, .ref x0, v4, v5, v6, v7, v8, .int 0, .int (-1), .int 0])), (m0, .inl (cM, 8, .inr (.inr (.inr (.inr (fun _ => none))))))]) hD hS hA [0, 2] rfl
    refine va_callq (va_runV (As := [.int p1, .int p2]) (rest := []) ⟨hx, hb, hml, hown, hts⟩ (c_X8_fieldOf l dC dI h0 t0 r0 m0 x0 (v4) (v5) (v6) (v7) (v8) cM p1 p2 H.size) (cwV 2 hts gp_X8_get_X8_fieldOf_100 rfl rfl rfl (by decide +kernel) ⟨Nat.le_of_ble_eq_true rfl, Nat.le_of_ble_eq_true rfl⟩) ⟨Pr.blind _, va_recv hK hP (ci := 10) (q0 := 0) rfl rfl, fun U hU hW => ⟨rfl, Pr.at (hP.sub (ws' := [(h0, .inr (10, [.ref t0, .ref r0, .ref m0, .ref x0, v4, v5, v6, v7, v8, .int 0, .int (-1), .int 0])), (m0, .inl (cM, 8, .inr (.inr (.inr (.inr (fun _ => none))))))]) [0, 2] rfl) (hK.sub (tys' := [(cM, .object RX1)]) [0] rfl) (hD.sub (ws' := [(h0, .inr (10, [.ref t0, .ref r0, .ref m0, .ref x0, v4, v5, v6, v7, v8, .int 0, .int (-1), .int 0])), (m0, .inl (cM, 8, .inr (.inr (.inr (.inr (fun _ => none))))))]) [0, 2] (by decide) rfl) hN hZ hS hFc hU hW⟩⟩ rfl rfl hl.1 rfl (lv_room (Nat.le_of_ble_eq_true rfl)) dX8_get_20 ⟨Nat.le_of_ble_eq_true rfl, Nat.le_of_ble_eq_true rfl⟩) hS (fun q _ h => hFc q h) hFc (fun r_7 u t H1 locs ht hvm hw_8 hB hz1 hk1 hS => ?_)
    obtain ⟨hP, hD, hK⟩ := Bq.join (wr := [(r0, .inl (cR, 4, .inr (.inr (.inr (.inr fR)))))]) hB ht hvm hP hD [0, 2] [1] rfl rfl (by decide) (by decide) hk1 hFc hK
    generalize H1 = H at hP hS ⊢
    have hP : va_P (dC, dI) vwCl [(r0, .inl (cR, 4, .inr (.inr (.inr (.inr fR))))), (h0, .inr (10, [.ref t0, .ref r0, .ref m0, .ref x0, v4, v5, v6, v7, v8, .int 0, .int (-1), .int 0])), (m0, .inl (cM, 8, .inr (.inr (.inr (.inr (fun _ => none))))))] H := hP
    have hD : va_D A [(r0, .inl (cR, 4, .inr (.inr (.inr (.inr fR))))), (h0, .inr (10, [.ref t0, .ref r0, .ref m0, .ref x0, v4, v5, v6, v7, v8, .int 0, .int (-1), .int 0])), (m0, .inl (cM, 8, .inr (.inr (.inr (.inr (fun _ => none))))))] := hD
    have hK : va_K (dC, dI) vwCl [(cM, .object RX1), (cR, .object RX5)] s := hK
    try dsimp only at hw_8
    have k_9 := hw_8
    subst k_9
    refine W.eq (g2 := F0 m 23 ls [.null]) rfl ?_
    refine lv_astoreN (lv' := [(7, .null), (6, .null), (5, .null), (0, .ref h0), (1, .int p0), (2, .int p1), (3, .int p2), (4, .int p3)]) hx hb dX8_get_23 hl (by decide) rfl (fun ls hl => ?_)
    refine lv_aloadN hx hb dX8_get_25 (lv_at hl 2 rfl) ?_
    refine lv_ifnullN (tgt := 51) hx hb dX8_get_27 (by decide) ?_
    refine lv_ldc2 hx hb hown (hts (.constantLong RX8 184 (-9000000000000000000)) (by decide +kernel)) dX8_get_51 ?_
    have hP9 := hP.sub (ws' := []) [] rfl
    have hD9 := hD.sub (ws' := []) [] (by decide) rfl
    have hK9 := hK.sub (tys' := []) [] rfl
    exact W.lret (v := (-9000000000000000000)) hx hb hr (fun t ht hW => ⟨⟨(-9000000000000000000), (), rfl, rfl, by rw [ht]; exact hP9, va_K.moved hW.alike hK9, hD9⟩, hS.F ht⟩) hS.2.2 dX8_get_54
  · refine W.eq (g2 := F0 m 5 ls [.ref a_3]) rfl ?_
    refine lv_astore (lv' := [(5, .ref a_3), (0, .ref h0), (1, .int p0), (2, .int p1), (3, .int p2), (4, .int p3)]) hx hb dX8_get_5 hl (by decide) rfl (fun ls hl => ?_)
    refine lv_aload_n hx hb dX8_get_7 rfl (lv_at hl 1 rfl) ?_
    refine va_get (D := (dC, dI)) (ci := 10) (v := .ref m0) (C := RX8) (T := TX8) (N := 12) hx hb hts iRX8 hown hK hP 1 rfl rfl 2 (by decide) (hts (.fieldLink RX8 24 "RecordBench" "makes" "[LRecordBench$Make;") (by decide +kernel)) (fun _ h9 => h9) rfl dX8_get_8 ?_
    refine lv_iload_n hx hb dX8_get_11 rfl (lv_at hl 3 rfl) ?_
    have hFc := va_free (wc := [(m0, .inl (cM, 8, .inr (.inr (.inr (.inr (fun _ => none))))))]) hD hS hA [0] rfl
    refine va_callq (va_runS (As := [.ref m0, .int p1]) (rest := []) ⟨hx, hb, hml, hown, hts⟩ (c_X8_makeOf l dC dI m0 p1 cM H.size) (cwS 2 hts gp_X8_get_X8_makeOf_136 rfl rfl rfl (by decide +kernel) ⟨Nat.le_of_ble_eq_true rfl, Nat.le_of_ble_eq_true rfl⟩) ⟨Pr.blind _, fun U hU hW => ⟨rfl, Pr.at (hP.sub (ws' := [(m0, .inl (cM, 8, .inr (.inr (.inr (.inr (fun _ => none))))))]) [0] rfl) (hK.sub (tys' := [(cM, .object RX1)]) [0] rfl) (hD.sub (ws' := [(m0, .inl (cM, 8, .inr (.inr (.inr (.inr (fun _ => none))))))]) [0] (by decide) rfl) hN hZ hS hFc hU hW⟩⟩ rfl rfl hl.1 rfl (lv_room (Nat.le_of_ble_eq_true rfl)) dX8_get_12 ⟨Nat.le_of_ble_eq_true rfl, Nat.le_of_ble_eq_true rfl⟩) hS (fun q _ h => hFc q h) hFc (fun r_10 u t H1 locs ht hvm hw_11 hB hz1 hk1 hS => ?_)
    obtain ⟨hP, hD, hK⟩ := Bq.join (wr := [(h0, .inr (10, [.ref t0, .ref r0, .ref m0, .ref x0, v4, v5, v6, v7, v8, .int 0, .int (-1), .int 0])), (r0, .inl (cR, 4, .inr (.inr (.inr (.inr fR)))))]) hB ht hvm hP hD [0] [1, 2] rfl rfl (by decide) (by decide) hk1 hFc hK
    generalize H1 = H at hP hS ⊢
    have hP : va_P (dC, dI) vwCl [(h0, .inr (10, [.ref t0, .ref r0, .ref m0, .ref x0, v4, v5, v6, v7, v8, .int 0, .int (-1), .int 0])), (r0, .inl (cR, 4, .inr (.inr (.inr (.inr fR))))), (m0, .inl (cM, 8, .inr (.inr (.inr (.inr (fun _ => none))))))] H := hP
    have hD : va_D A [(h0, .inr (10, [.ref t0, .ref r0, .ref m0, .ref x0, v4, v5, v6, v7, v8, .int 0, .int (-1), .int 0])), (r0, .inl (cR, 4, .inr (.inr (.inr (.inr fR))))), (m0, .inl (cM, 8, .inr (.inr (.inr (.inr (fun _ => none))))))] := hD
    have hK : va_K (dC, dI) vwCl [(cM, .object RX1), (cR, .object RX5)] s := hK
    try dsimp only at hw_11
    have k_12 := hw_11
    subst k_12
    refine W.eq (g2 := F0 m 15 ls [.null]) rfl ?_
    refine lv_astoreN (lv' := [(6, .null), (5, .ref a_3), (0, .ref h0), (1, .int p0), (2, .int p1), (3, .int p2), (4, .int p3)]) hx hb dX8_get_15 hl (by decide) rfl (fun ls hl => ?_)
    refine lv_aload_n hx hb dX8_get_17 rfl (lv_at hl 2 rfl) ?_
    refine lv_iload_n hx hb dX8_get_18 rfl (lv_at hl 4 rfl) ?_
    refine lv_iload_n hx hb dX8_get_19 rfl (lv_at hl 5 rfl) ?_
    have hFc := va_free (wc := [(h0, .inr (10, [.ref t0, .ref r0, .ref m0, .ref x0, v4, v5, v6, v7, v8, .int 0, .int (-1), .int 0])), (m0, .inl (cM, 8, .inr (.inr (.inr (.inr (fun _ => none))))))]) hD hS hA [0, 2] rfl
    refine va_callq (va_runV (As := [.int p1, .int p2]) (rest := []) ⟨hx, hb, hml, hown, hts⟩ (c_X8_fieldOf l dC dI h0 t0 r0 m0 x0 (v4) (v5) (v6) (v7) (v8) cM p1 p2 H.size) (cwV 2 hts gp_X8_get_X8_fieldOf_100 rfl rfl rfl (by decide +kernel) ⟨Nat.le_of_ble_eq_true rfl, Nat.le_of_ble_eq_true rfl⟩) ⟨Pr.blind _, va_recv hK hP (ci := 10) (q0 := 0) rfl rfl, fun U hU hW => ⟨rfl, Pr.at (hP.sub (ws' := [(h0, .inr (10, [.ref t0, .ref r0, .ref m0, .ref x0, v4, v5, v6, v7, v8, .int 0, .int (-1), .int 0])), (m0, .inl (cM, 8, .inr (.inr (.inr (.inr (fun _ => none))))))]) [0, 2] rfl) (hK.sub (tys' := [(cM, .object RX1)]) [0] rfl) (hD.sub (ws' := [(h0, .inr (10, [.ref t0, .ref r0, .ref m0, .ref x0, v4, v5, v6, v7, v8, .int 0, .int (-1), .int 0])), (m0, .inl (cM, 8, .inr (.inr (.inr (.inr (fun _ => none))))))]) [0, 2] (by decide) rfl) hN hZ hS hFc hU hW⟩⟩ rfl rfl hl.1 rfl (lv_room (Nat.le_of_ble_eq_true rfl)) dX8_get_20 ⟨Nat.le_of_ble_eq_true rfl, Nat.le_of_ble_eq_true rfl⟩) hS (fun q _ h => hFc q h) hFc (fun r_13 u t H1 locs ht hvm hw_14 hB hz1 hk1 hS => ?_)
    obtain ⟨hP, hD, hK⟩ := Bq.join (wr := [(r0, .inl (cR, 4, .inr (.inr (.inr (.inr fR)))))]) hB ht hvm hP hD [0, 2] [1] rfl rfl (by decide) (by decide) hk1 hFc hK
    generalize H1 = H at hP hS ⊢
    have hP : va_P (dC, dI) vwCl [(r0, .inl (cR, 4, .inr (.inr (.inr (.inr fR))))), (h0, .inr (10, [.ref t0, .ref r0, .ref m0, .ref x0, v4, v5, v6, v7, v8, .int 0, .int (-1), .int 0])), (m0, .inl (cM, 8, .inr (.inr (.inr (.inr (fun _ => none))))))] H := hP
    have hD : va_D A [(r0, .inl (cR, 4, .inr (.inr (.inr (.inr fR))))), (h0, .inr (10, [.ref t0, .ref r0, .ref m0, .ref x0, v4, v5, v6, v7, v8, .int 0, .int (-1), .int 0])), (m0, .inl (cM, 8, .inr (.inr (.inr (.inr (fun _ => none))))))] := hD
    have hK : va_K (dC, dI) vwCl [(cM, .object RX1), (cR, .object RX5)] s := hK
    try dsimp only at hw_14
    have k_15 := hw_14
    subst k_15
    refine W.eq (g2 := F0 m 23 ls [.null]) rfl ?_
    refine lv_astoreN (lv' := [(7, .null), (6, .null), (5, .ref a_3), (0, .ref h0), (1, .int p0), (2, .int p1), (3, .int p2), (4, .int p3)]) hx hb dX8_get_23 hl (by decide) rfl (fun ls hl => ?_)
    refine lv_aload hx hb dX8_get_25 (lv_at hl 2 rfl) ?_
    refine lv_ifnull hx hb dX8_get_27 ?_
    refine lv_aloadN hx hb dX8_get_30 (lv_at hl 1 rfl) ?_
    refine lv_ifnullN (tgt := 51) hx hb dX8_get_32 (by decide) ?_
    refine lv_ldc2 hx hb hown (hts (.constantLong RX8 184 (-9000000000000000000)) (by decide +kernel)) dX8_get_51 ?_
    have hP9 := hP.sub (ws' := []) [] rfl
    have hD9 := hD.sub (ws' := []) [] (by decide) rfl
    have hK9 := hK.sub (tys' := []) [] rfl
    exact W.lret (v := (-9000000000000000000)) hx hb hr (fun t ht hW => ⟨⟨(-9000000000000000000), (), rfl, rfl, by rw [ht]; exact hP9, va_K.moved hW.alike hK9, hD9⟩, hS.F ht⟩) hS.2.2 dX8_get_54
def wp_X8_kept : List Cond := .code yX8_kept cX8_kept 5 (some .int) :: ([.methodLink RX8 128 yX8_recordOf, .instanceMethod yX8_recordOf, .selects RX8 yX8_recordOf yX8_recordOf, .initialized RX8, .fieldLink RX8 24 "RecordBench" "makes" "[LRecordBench$Make;", .methodLink RX8 136 yX8_makeOf, .static yX8_makeOf, .code yX8_recordOf cX8_recordOf 2 (some (.object "RecordBench$Row")), .fieldLink RX8 18 "RecordBench" "records" "[LRecordBench$Row;", .code yX8_makeOf cX8_makeOf 2 (some (.object "RecordBench$Make"))] ++ wsX80)
set_option maxRecDepth 20000 in
theorem gp_X8_kept_X8_recordAny_128 : GoodIn wp_X8_kept (wsV RX8 128 RX8 yX8_recordOf wp_X8_recordAny) := goodIn_p _ [8] rfl (by decide +kernel)
set_option maxRecDepth 20000 in
theorem gp_X8_kept_X8_makeOf_136 : GoodIn wp_X8_kept (wsS RX8 136 yX8_makeOf wp_X8_makeOf) := goodIn_p _ [10] rfl (by decide +kernel)
set_option maxHeartbeats 4000000 in
set_option maxRecDepth 100000 in
theorem c_X8_kept (l : Launch) (dC : Nat → ClassId) (dI : Nat → Nat → Nat) (h0 : Nat) (t0 : Nat) (r0 : Nat) (m0 : Nat) (x0 : Nat) (v4 : Value) (v5 : Value) (v6 : Value) (v7 : Value) (v8 : Value) (cM : ClassId) (cR : ClassId) (fR : Nat → Option Nat) (p0 : Int32) (p1 : Int32) (sz : Nat) : Met l yX8_kept wp_X8_kept ({ frames := 1, cells := 0, slots := 0, locals := 25 }) (va_Pc [.ref h0, .int p0, .int p1] (Pr (dC, dI) [(cM, .object RX1), (cR, .object RX5)] [(h0, .inr (10, [.ref t0, .ref r0, .ref m0, .ref x0, v4, v5, v6, v7, v8, .int 0, .int ((-1)), .int 0])), (m0, .inl (cM, 8, .inr (.inr (.inr (.inr (fun _ => none)))))), (r0, .inl (cR, 4, .inr (.inr (.inr (.inr fR)))))] sz)) (va_Qi (fun r : Int32 => (fun _ : Unit => r = -1)) (Bq (dC, dI) (fun _ : Unit => []) (fun _ : Unit => []) (va_A [(h0, .inr (10, [.ref t0, .ref r0, .ref m0, .ref x0, v4, v5, v6, v7, v8, .int 0, .int ((-1)), .int 0])), (m0, .inl (cM, 8, .inr (.inr (.inr (.inr (fun _ => none)))))), (r0, .inl (cR, 4, .inr (.inr (.inr (.inr fR)))))] sz)) (va_A [(h0, .inr (10, [.ref t0, .ref r0, .ref m0, .ref x0, v4, v5, v6, v7, v8, .int 0, .int ((-1)), .int 0])), (m0, .inl (cM, 8, .inr (.inr (.inr (.inr (fun _ => none)))))), (r0, .inl (cR, 4, .inr (.inr (.inr (.inr fR)))))] sz)) 0 0 (va_A [(h0, .inr (10, [.ref t0, .ref r0, .ref m0, .ref x0, v4, v5, v6, v7, v8, .int 0, .int ((-1)), .int 0])), (m0, .inl (cM, 8, .inr (.inr (.inr (.inr (fun _ => none)))))), (r0, .inl (cR, 4, .inr (.inr (.inr (.inr fR)))))] sz) := by
  refine Met.ofW (cc := cX8_kept) (maxL := 5) (ret := (some .int)) (by decide) rfl ?_
  intro p e s m args below meth c s₁ B hml hv
  obtain ⟨rfl, hsz, hP, hK, hD0, hN, hZ⟩ := hv
  have hx := B.exec
  have hb := B.bytes
  have hr := B.returns
  have hts := atoms_spec (ws := wp_X8_kept) B.pre
  have hown : s.vm.findClass RX8 = some m.cls := findClass_of_methodNamed B.named
  have hlocks := B.notSynchronized
  have iRX8 : ∀ w ∈ u_ws RX8 TX8 12, w ∈ wp_X8_kept := by decide +kernel
  subst hsz
  have hD := hD0.self (sz := s.heap.size)
  generalize hAe : va_A [(h0, .inr (10, [.ref t0, .ref r0, .ref m0, .ref x0, v4, v5, v6, v7, v8, .int 0, .int ((-1)), .int 0])), (m0, .inl (cM, 8, .inr (.inr (.inr (.inr (fun _ => none)))))), (r0, .inl (cR, 4, .inr (.inr (.inr (.inr fR)))))] s.heap.size = A at hD hZ ⊢
  have hA : ∀ q : Nat, s.heap.size ≤ q → A q := fun q h => by rw [← hAe]; exact Or.inr h
  have hS : va_S A s.heap s.heap [] := va_S.rf
  have hP : va_P (dC, dI) vwCl [(h0, .inr (10, [.ref t0, .ref r0, .ref m0, .ref x0, v4, v5, v6, v7, v8, .int 0, .int ((-1)), .int 0])), (m0, .inl (cM, 8, .inr (.inr (.inr (.inr (fun _ => none)))))), (r0, .inl (cR, 4, .inr (.inr (.inr (.inr fR)))))] s.heap := hP
  have hl := lv_entry ([.ref h0, .int p0, .int p1]) (n := 5) (Nat.le_of_ble_eq_true rfl)
  rw [lg_entry_eq]
  generalize (lg_sl ([.ref h0, .int p0, .int p1]) ++ List.replicate (5 - (lg_sl ([.ref h0, .int p0, .int p1])).length) Slot.unset).toArray = ls at hl ⊢
  have hl : lv_has ls 5 [(0, .ref h0), (1, .int p0), (2, .int p1)] := hl
  refine lv_aload_n hx hb dX8_kept_0 rfl (lv_at hl 0 rfl) ?_
  refine lv_iload_n hx hb dX8_kept_1 rfl (lv_at hl 1 rfl) ?_
  have hFc := va_free (wc := [(h0, .inr (10, [.ref t0, .ref r0, .ref m0, .ref x0, v4, v5, v6, v7, v8, .int 0, .int ((-1)), .int 0])), (r0, .inl (cR, 4, .inr (.inr (.inr (.inr fR)))))]) hD hS hA [0, 2] rfl
  refine va_callq (va_runV (As := [.int p0]) (rest := []) ⟨hx, hb, hml, hown, hts⟩ (c_X8_recordAny l dC dI h0 t0 r0 m0 x0 (v4) (v5) (v6) (v7) (v8) cR fR p0 s.heap.size) (cwV 1 hts gp_X8_kept_X8_recordAny_128 rfl rfl rfl (by decide +kernel) ⟨Nat.le_of_ble_eq_true rfl, Nat.le_of_ble_eq_true rfl⟩) ⟨Pr.blind _, va_recv hK hP (ci := 10) (q0 := 0) rfl rfl, fun U hU hW => ⟨rfl, Pr.at (hP.sub (ws' := [(h0, .inr (10, [.ref t0, .ref r0, .ref m0, .ref x0, v4, v5, v6, v7, v8, .int 0, .int ((-1)), .int 0])), (r0, .inl (cR, 4, .inr (.inr (.inr (.inr fR)))))]) [0, 2] rfl) (hK.sub (tys' := [(cR, .object RX5)]) [1] rfl) (hD.sub (ws' := [(h0, .inr (10, [.ref t0, .ref r0, .ref m0, .ref x0, v4, v5, v6, v7, v8, .int 0, .int ((-1)), .int 0])), (r0, .inl (cR, 4, .inr (.inr (.inr (.inr fR)))))]) [0, 2] (by decide) rfl) hN hZ hS hFc hU hW⟩⟩ rfl rfl hl.1 rfl (lv_room (Nat.le_of_ble_eq_true rfl)) dX8_kept_2 ⟨Nat.le_of_ble_eq_true rfl, Nat.le_of_ble_eq_true rfl⟩) hS (fun q _ h => hFc q h) hFc (fun r_1 u t H1 locs ht hvm hw_2 hB hz1 hk1 hS => ?_)
  obtain ⟨hP, hD, hK⟩ := Bq.join (wr := [(m0, .inl (cM, 8, .inr (.inr (.inr (.inr (fun _ => none))))))]) hB ht hvm hP hD [0, 2] [1] rfl rfl (by decide) (by decide) hk1 hFc hK
  generalize H1 = H at hP hS ⊢
  have hP : va_P (dC, dI) vwCl [(m0, .inl (cM, 8, .inr (.inr (.inr (.inr (fun _ => none)))))), (h0, .inr (10, [.ref t0, .ref r0, .ref m0, .ref x0, v4, v5, v6, v7, v8, .int 0, .int (-1), .int 0])), (r0, .inl (cR, 4, .inr (.inr (.inr (.inr fR)))))] H := hP
  have hD : va_D A [(m0, .inl (cM, 8, .inr (.inr (.inr (.inr (fun _ => none)))))), (h0, .inr (10, [.ref t0, .ref r0, .ref m0, .ref x0, v4, v5, v6, v7, v8, .int 0, .int (-1), .int 0])), (r0, .inl (cR, 4, .inr (.inr (.inr (.inr fR)))))] := hD
  have hK : va_K (dC, dI) vwCl [(cM, .object RX1), (cR, .object RX5)] s := hK
  try dsimp only at hw_2
  rcases r_1 with _ | a_3
  · refine W.eq (g2 := F0 m 5 ls [.null]) rfl ?_
    refine lv_astore_nN (lv' := [(3, .null), (0, .ref h0), (1, .int p0), (2, .int p1)]) hx hb dX8_kept_5 rfl hl (by decide) rfl (fun ls hl => ?_)
    refine lv_aload_n hx hb dX8_kept_6 rfl (lv_at hl 1 rfl) ?_
    refine va_get (D := (dC, dI)) (ci := 10) (v := .ref m0) (C := RX8) (T := TX8) (N := 12) hx hb hts iRX8 hown hK hP 1 rfl rfl 2 (by decide) (hts (.fieldLink RX8 24 "RecordBench" "makes" "[LRecordBench$Make;") (by decide +kernel)) (fun _ h9 => h9) rfl dX8_kept_7 ?_
    refine lv_iload_n hx hb dX8_kept_10 rfl (lv_at hl 3 rfl) ?_
    have hFc := va_free (wc := [(m0, .inl (cM, 8, .inr (.inr (.inr (.inr (fun _ => none))))))]) hD hS hA [0] rfl
    refine va_callq (va_runS (As := [.ref m0, .int p1]) (rest := []) ⟨hx, hb, hml, hown, hts⟩ (c_X8_makeOf l dC dI m0 p1 cM H.size) (cwS 2 hts gp_X8_kept_X8_makeOf_136 rfl rfl rfl (by decide +kernel) ⟨Nat.le_of_ble_eq_true rfl, Nat.le_of_ble_eq_true rfl⟩) ⟨Pr.blind _, fun U hU hW => ⟨rfl, Pr.at (hP.sub (ws' := [(m0, .inl (cM, 8, .inr (.inr (.inr (.inr (fun _ => none))))))]) [0] rfl) (hK.sub (tys' := [(cM, .object RX1)]) [0] rfl) (hD.sub (ws' := [(m0, .inl (cM, 8, .inr (.inr (.inr (.inr (fun _ => none))))))]) [0] (by decide) rfl) hN hZ hS hFc hU hW⟩⟩ rfl rfl hl.1 rfl (lv_room (Nat.le_of_ble_eq_true rfl)) dX8_kept_11 ⟨Nat.le_of_ble_eq_true rfl, Nat.le_of_ble_eq_true rfl⟩) hS (fun q _ h => hFc q h) hFc (fun r_4 u t H1 locs ht hvm hw_5 hB hz1 hk1 hS => ?_)
    obtain ⟨hP, hD, hK⟩ := Bq.join (wr := [(h0, .inr (10, [.ref t0, .ref r0, .ref m0, .ref x0, v4, v5, v6, v7, v8, .int 0, .int (-1), .int 0])), (r0, .inl (cR, 4, .inr (.inr (.inr (.inr fR)))))]) hB ht hvm hP hD [0] [1, 2] rfl rfl (by decide) (by decide) hk1 hFc hK
    generalize H1 = H at hP hS ⊢
    have hP : va_P (dC, dI) vwCl [(h0, .inr (10, [.ref t0, .ref r0, .ref m0, .ref x0, v4, v5, v6, v7, v8, .int 0, .int (-1), .int 0])), (r0, .inl (cR, 4, .inr (.inr (.inr (.inr fR))))), (m0, .inl (cM, 8, .inr (.inr (.inr (.inr (fun _ => none))))))] H := hP
    have hD : va_D A [(h0, .inr (10, [.ref t0, .ref r0, .ref m0, .ref x0, v4, v5, v6, v7, v8, .int 0, .int (-1), .int 0])), (r0, .inl (cR, 4, .inr (.inr (.inr (.inr fR))))), (m0, .inl (cM, 8, .inr (.inr (.inr (.inr (fun _ => none))))))] := hD
    have hK : va_K (dC, dI) vwCl [(cM, .object RX1), (cR, .object RX5)] s := hK
    try dsimp only at hw_5
    have k_6 := hw_5
    subst k_6
    refine W.eq (g2 := F0 m 14 ls [.null]) rfl ?_
    refine lv_astoreN (lv' := [(4, .null), (3, .null), (0, .ref h0), (1, .int p0), (2, .int p1)]) hx hb dX8_kept_14 hl (by decide) rfl (fun ls hl => ?_)
    refine lv_aload_nN hx hb dX8_kept_16 rfl (lv_at hl 1 rfl) ?_
    refine lv_ifnullN (tgt := 38) hx hb dX8_kept_17 (by decide) ?_
    refine lv_iconst (v := (-1)) hx hb dX8_kept_38 (by decide) ?_
    have hP9 := hP.sub (ws' := []) [] rfl
    have hD9 := hD.sub (ws' := []) [] (by decide) rfl
    have hK9 := hK.sub (tys' := []) [] rfl
    exact W.iret (v := (-1)) hx hb hr (fun t ht hW => ⟨⟨(-1), (), rfl, rfl, by rw [ht]; exact hP9, va_K.moved hW.alike hK9, hD9⟩, hS.F ht⟩) hS.2.2 dX8_kept_39
  · refine W.eq (g2 := F0 m 5 ls [.ref a_3]) rfl ?_
    refine lv_astore_n (lv' := [(3, .ref a_3), (0, .ref h0), (1, .int p0), (2, .int p1)]) hx hb dX8_kept_5 rfl hl (by decide) rfl (fun ls hl => ?_)
    refine lv_aload_n hx hb dX8_kept_6 rfl (lv_at hl 1 rfl) ?_
    refine va_get (D := (dC, dI)) (ci := 10) (v := .ref m0) (C := RX8) (T := TX8) (N := 12) hx hb hts iRX8 hown hK hP 1 rfl rfl 2 (by decide) (hts (.fieldLink RX8 24 "RecordBench" "makes" "[LRecordBench$Make;") (by decide +kernel)) (fun _ h9 => h9) rfl dX8_kept_7 ?_
    refine lv_iload_n hx hb dX8_kept_10 rfl (lv_at hl 3 rfl) ?_
    have hFc := va_free (wc := [(m0, .inl (cM, 8, .inr (.inr (.inr (.inr (fun _ => none))))))]) hD hS hA [0] rfl
    refine va_callq (va_runS (As := [.ref m0, .int p1]) (rest := []) ⟨hx, hb, hml, hown, hts⟩ (c_X8_makeOf l dC dI m0 p1 cM H.size) (cwS 2 hts gp_X8_kept_X8_makeOf_136 rfl rfl rfl (by decide +kernel) ⟨Nat.le_of_ble_eq_true rfl, Nat.le_of_ble_eq_true rfl⟩) ⟨Pr.blind _, fun U hU hW => ⟨rfl, Pr.at (hP.sub (ws' := [(m0, .inl (cM, 8, .inr (.inr (.inr (.inr (fun _ => none))))))]) [0] rfl) (hK.sub (tys' := [(cM, .object RX1)]) [0] rfl) (hD.sub (ws' := [(m0, .inl (cM, 8, .inr (.inr (.inr (.inr (fun _ => none))))))]) [0] (by decide) rfl) hN hZ hS hFc hU hW⟩⟩ rfl rfl hl.1 rfl (lv_room (Nat.le_of_ble_eq_true rfl)) dX8_kept_11 ⟨Nat.le_of_ble_eq_true rfl, Nat.le_of_ble_eq_true rfl⟩) hS (fun q _ h => hFc q h) hFc (fun r_7 u t H1 locs ht hvm hw_8 hB hz1 hk1 hS => ?_)
    obtain ⟨hP, hD, hK⟩ := Bq.join (wr := [(h0, .inr (10, [.ref t0, .ref r0, .ref m0, .ref x0, v4, v5, v6, v7, v8, .int 0, .int (-1), .int 0])), (r0, .inl (cR, 4, .inr (.inr (.inr (.inr fR)))))]) hB ht hvm hP hD [0] [1, 2] rfl rfl (by decide) (by decide) hk1 hFc hK
    generalize H1 = H at hP hS ⊢
    have hP : va_P (dC, dI) vwCl [(h0, .inr (10, [.ref t0, .ref r0, .ref m0, .ref x0, v4, v5, v6, v7, v8, .int 0, .int (-1), .int 0])), (r0, .inl (cR, 4, .inr (.inr (.inr (.inr fR))))), (m0, .inl (cM, 8, .inr (.inr (.inr (.inr (fun _ => none))))))] H := hP
    have hD : va_D A [(h0, .inr (10, [.ref t0, .ref r0, .ref m0, .ref x0, v4, v5, v6, v7, v8, .int 0, .int (-1), .int 0])), (r0, .inl (cR, 4, .inr (.inr (.inr (.inr fR))))), (m0, .inl (cM, 8, .inr (.inr (.inr (.inr (fun _ => none))))))] := hD
    have hK : va_K (dC, dI) vwCl [(cM, .object RX1), (cR, .object RX5)] s := hK
    try dsimp only at hw_8
    have k_9 := hw_8
    subst k_9
    refine W.eq (g2 := F0 m 14 ls [.null]) rfl ?_
    refine lv_astoreN (lv' := [(4, .null), (3, .ref a_3), (0, .ref h0), (1, .int p0), (2, .int p1)]) hx hb dX8_kept_14 hl (by decide) rfl (fun ls hl => ?_)
    refine lv_aload_n hx hb dX8_kept_16 rfl (lv_at hl 1 rfl) ?_
    refine lv_ifnull hx hb dX8_kept_17 ?_
    refine lv_aloadN hx hb dX8_kept_20 (lv_at hl 0 rfl) ?_
    refine lv_ifnullN (tgt := 38) hx hb dX8_kept_22 (by decide) ?_
    refine lv_iconst (v := (-1)) hx hb dX8_kept_38 (by decide) ?_
    have hP9 := hP.sub (ws' := []) [] rfl
    have hD9 := hD.sub (ws' := []) [] (by decide) rfl
    have hK9 := hK.sub (tys' := []) [] rfl
    exact W.iret (v := (-1)) hx hb hr (fun t ht hW => ⟨⟨(-1), (), rfl, rfl, by rw [ht]; exact hP9, va_K.moved hW.alike hK9, hD9⟩, hS.F ht⟩) hS.2.2 dX8_kept_39
def wp_X8_write : List Cond := .code yX8_write cX8_write 7 (some .int) :: ([.methodLink RX8 128 yX8_recordOf, .instanceMethod yX8_recordOf, .selects RX8 yX8_recordOf yX8_recordOf, .initialized RX8, .fieldLink RX8 24 "RecordBench" "makes" "[LRecordBench$Make;", .methodLink RX8 136 yX8_makeOf, .static yX8_makeOf, .code yX8_recordOf cX8_recordOf 2 (some (.object "RecordBench$Row")), .fieldLink RX8 18 "RecordBench" "records" "[LRecordBench$Row;", .code yX8_makeOf cX8_makeOf 2 (some (.object "RecordBench$Make"))] ++ wsX80)
set_option maxRecDepth 20000 in
theorem gp_X8_write_X8_recordAny_128 : GoodIn wp_X8_write (wsV RX8 128 RX8 yX8_recordOf wp_X8_recordAny) := goodIn_p _ [8] rfl (by decide +kernel)
set_option maxRecDepth 20000 in
theorem gp_X8_write_X8_makeOf_136 : GoodIn wp_X8_write (wsS RX8 136 yX8_makeOf wp_X8_makeOf) := goodIn_p _ [10] rfl (by decide +kernel)
set_option maxHeartbeats 4000000 in
set_option maxRecDepth 100000 in
theorem c_X8_write (l : Launch) (dC : Nat → ClassId) (dI : Nat → Nat → Nat) (h0 : Nat) (t0 : Nat) (r0 : Nat) (m0 : Nat) (x0 : Nat) (v4 : Value) (v5 : Value) (v6 : Value) (v7 : Value) (v8 : Value) (cM : ClassId) (cR : ClassId) (fR : Nat → Option Nat) (p0 : Int32) (p1 : Int32) (p2 : Int32) (sz : Nat) : Met l yX8_write wp_X8_write ({ frames := 1, cells := 0, slots := 0, locals := 25 }) (va_Pc [.ref h0, .int p0, .int p1, .int p2] (Pr (dC, dI) [(cM, .object RX1), (cR, .object RX5)] [(h0, .inr (10, [.ref t0, .ref r0, .ref m0, .ref x0, v4, v5, v6, v7, v8, .int 0, .int ((-1)), .int 0])), (m0, .inl (cM, 8, .inr (.inr (.inr (.inr (fun _ => none)))))), (r0, .inl (cR, 4, .inr (.inr (.inr (.inr fR)))))] sz)) (va_Qi (fun r : Int32 => (fun _ : Unit => r = -1)) (Bq (dC, dI) (fun _ : Unit => []) (fun _ : Unit => []) (va_A [(h0, .inr (10, [.ref t0, .ref r0, .ref m0, .ref x0, v4, v5, v6, v7, v8, .int 0, .int ((-1)), .int 0])), (m0, .inl (cM, 8, .inr (.inr (.inr (.inr (fun _ => none)))))), (r0, .inl (cR, 4, .inr (.inr (.inr (.inr fR)))))] sz)) (va_A [(h0, .inr (10, [.ref t0, .ref r0, .ref m0, .ref x0, v4, v5, v6, v7, v8, .int 0, .int ((-1)), .int 0])), (m0, .inl (cM, 8, .inr (.inr (.inr (.inr (fun _ => none)))))), (r0, .inl (cR, 4, .inr (.inr (.inr (.inr fR)))))] sz)) 0 0 (va_A [(h0, .inr (10, [.ref t0, .ref r0, .ref m0, .ref x0, v4, v5, v6, v7, v8, .int 0, .int ((-1)), .int 0])), (m0, .inl (cM, 8, .inr (.inr (.inr (.inr (fun _ => none)))))), (r0, .inl (cR, 4, .inr (.inr (.inr (.inr fR)))))] sz) := by
  refine Met.ofW (cc := cX8_write) (maxL := 7) (ret := (some .int)) (by decide) rfl ?_
  intro p e s m args below meth c s₁ B hml hv
  obtain ⟨rfl, hsz, hP, hK, hD0, hN, hZ⟩ := hv
  have hx := B.exec
  have hb := B.bytes
  have hr := B.returns
  have hts := atoms_spec (ws := wp_X8_write) B.pre
  have hown : s.vm.findClass RX8 = some m.cls := findClass_of_methodNamed B.named
  have hlocks := B.notSynchronized
  have iRX8 : ∀ w ∈ u_ws RX8 TX8 12, w ∈ wp_X8_write := by decide +kernel
  subst hsz
  have hD := hD0.self (sz := s.heap.size)
  generalize hAe : va_A [(h0, .inr (10, [.ref t0, .ref r0, .ref m0, .ref x0, v4, v5, v6, v7, v8, .int 0, .int ((-1)), .int 0])), (m0, .inl (cM, 8, .inr (.inr (.inr (.inr (fun _ => none)))))), (r0, .inl (cR, 4, .inr (.inr (.inr (.inr fR)))))] s.heap.size = A at hD hZ ⊢
  have hA : ∀ q : Nat, s.heap.size ≤ q → A q := fun q h => by rw [← hAe]; exact Or.inr h
  have hS : va_S A s.heap s.heap [] := va_S.rf
  have hP : va_P (dC, dI) vwCl [(h0, .inr (10, [.ref t0, .ref r0, .ref m0, .ref x0, v4, v5, v6, v7, v8, .int 0, .int ((-1)), .int 0])), (m0, .inl (cM, 8, .inr (.inr (.inr (.inr (fun _ => none)))))), (r0, .inl (cR, 4, .inr (.inr (.inr (.inr fR)))))] s.heap := hP
  have hl := lv_entry ([.ref h0, .int p0, .int p1, .int p2]) (n := 7) (Nat.le_of_ble_eq_true rfl)
  rw [lg_entry_eq]
  generalize (lg_sl ([.ref h0, .int p0, .int p1, .int p2]) ++ List.replicate (7 - (lg_sl ([.ref h0, .int p0, .int p1, .int p2])).length) Slot.unset).toArray = ls at hl ⊢
  have hl : lv_has ls 7 [(0, .ref h0), (1, .int p0), (2, .int p1), (3, .int p2)] := hl
  refine lv_aload_n hx hb dX8_write_0 rfl (lv_at hl 0 rfl) ?_
  refine lv_iload_n hx hb dX8_write_1 rfl (lv_at hl 1 rfl) ?_
  have hFc := va_free (wc := [(h0, .inr (10, [.ref t0, .ref r0, .ref m0, .ref x0, v4, v5, v6, v7, v8, .int 0, .int ((-1)), .int 0])), (r0, .inl (cR, 4, .inr (.inr (.inr (.inr fR)))))]) hD hS hA [0, 2] rfl
  refine va_callq (va_runV (As := [.int p0]) (rest := []) ⟨hx, hb, hml, hown, hts⟩ (c_X8_recordAny l dC dI h0 t0 r0 m0 x0 (v4) (v5) (v6) (v7) (v8) cR fR p0 s.heap.size) (cwV 1 hts gp_X8_write_X8_recordAny_128 rfl rfl rfl (by decide +kernel) ⟨Nat.le_of_ble_eq_true rfl, Nat.le_of_ble_eq_true rfl⟩) ⟨Pr.blind _, va_recv hK hP (ci := 10) (q0 := 0) rfl rfl, fun U hU hW => ⟨rfl, Pr.at (hP.sub (ws' := [(h0, .inr (10, [.ref t0, .ref r0, .ref m0, .ref x0, v4, v5, v6, v7, v8, .int 0, .int ((-1)), .int 0])), (r0, .inl (cR, 4, .inr (.inr (.inr (.inr fR)))))]) [0, 2] rfl) (hK.sub (tys' := [(cR, .object RX5)]) [1] rfl) (hD.sub (ws' := [(h0, .inr (10, [.ref t0, .ref r0, .ref m0, .ref x0, v4, v5, v6, v7, v8, .int 0, .int ((-1)), .int 0])), (r0, .inl (cR, 4, .inr (.inr (.inr (.inr fR)))))]) [0, 2] (by decide) rfl) hN hZ hS hFc hU hW⟩⟩ rfl rfl hl.1 rfl (lv_room (Nat.le_of_ble_eq_true rfl)) dX8_write_2 ⟨Nat.le_of_ble_eq_true rfl, Nat.le_of_ble_eq_true rfl⟩) hS (fun q _ h => hFc q h) hFc (fun r_1 u t H1 locs ht hvm hw_2 hB hz1 hk1 hS => ?_)
  obtain ⟨hP, hD, hK⟩ := Bq.join (wr := [(m0, .inl (cM, 8, .inr (.inr (.inr (.inr (fun _ => none))))))]) hB ht hvm hP hD [0, 2] [1] rfl rfl (by decide) (by decide) hk1 hFc hK
  generalize H1 = H at hP hS ⊢
  have hP : va_P (dC, dI) vwCl [(m0, .inl (cM, 8, .inr (.inr (.inr (.inr (fun _ => none)))))), (h0, .inr (10, [.ref t0, .ref r0, .ref m0, .ref x0, v4, v5, v6, v7, v8, .int 0, .int (-1), .int 0])), (r0, .inl (cR, 4, .inr (.inr (.inr (.inr fR)))))] H := hP
  have hD : va_D A [(m0, .inl (cM, 8, .inr (.inr (.inr (.inr (fun _ => none)))))), (h0, .inr (10, [.ref t0, .ref r0, .ref m0, .ref x0, v4, v5, v6, v7, v8, .int 0, .int (-1), .int 0])), (r0, .inl (cR, 4, .inr (.inr (.inr (.inr fR)))))] := hD
  have hK : va_K (dC, dI) vwCl [(cM, .object RX1), (cR, .object RX5)] s := hK
  try dsimp only at hw_2
  rcases r_1 with _ | a_3
  · refine W.eq (g2 := F0 m 5 ls [.null]) rfl ?_
    refine lv_astoreN (lv' := [(4, .null), (0, .ref h0), (1, .int p0), (2, .int p1), (3, .int p2)]) hx hb dX8_write_5 hl (by decide) rfl (fun ls hl => ?_)
    refine lv_aload_n hx hb dX8_write_7 rfl (lv_at hl 1 rfl) ?_
    refine lv_iload_n hx hb dX8_write_8 rfl (lv_at hl 4 rfl) ?_
    have hFc := va_free (wc := [(h0, .inr (10, [.ref t0, .ref r0, .ref m0, .ref x0, v4, v5, v6, v7, v8, .int 0, .int (-1), .int 0])), (r0, .inl (cR, 4, .inr (.inr (.inr (.inr fR)))))]) hD hS hA [1, 2] rfl
    refine va_callq (va_runV (As := [.int p2]) (rest := []) ⟨hx, hb, hml, hown, hts⟩ (c_X8_recordAny l dC dI h0 t0 r0 m0 x0 (v4) (v5) (v6) (v7) (v8) cR fR p2 H.size) (cwV 1 hts gp_X8_write_X8_recordAny_128 rfl rfl rfl (by decide +kernel) ⟨Nat.le_of_ble_eq_true rfl, Nat.le_of_ble_eq_true rfl⟩) ⟨Pr.blind _, va_recv hK hP (ci := 10) (q0 := 1) rfl rfl, fun U hU hW => ⟨rfl, Pr.at (hP.sub (ws' := [(h0, .inr (10, [.ref t0, .ref r0, .ref m0, .ref x0, v4, v5, v6, v7, v8, .int 0, .int (-1), .int 0])), (r0, .inl (cR, 4, .inr (.inr (.inr (.inr fR)))))]) [1, 2] rfl) (hK.sub (tys' := [(cR, .object RX5)]) [1] rfl) (hD.sub (ws' := [(h0, .inr (10, [.ref t0, .ref r0, .ref m0, .ref x0, v4, v5, v6, v7, v8, .int 0, .int (-1), .int 0])), (r0, .inl (cR, 4, .inr (.inr (.inr (.inr fR)))))]) [1, 2] (by decide) rfl) hN hZ hS hFc hU hW⟩⟩ rfl rfl hl.1 rfl (lv_room (Nat.le_of_ble_eq_true rfl)) dX8_write_9 ⟨Nat.le_of_ble_eq_true rfl, Nat.le_of_ble_eq_true rfl⟩) hS (fun q _ h => hFc q h) hFc (fun r_4 u t H1 locs ht hvm hw_5 hB hz1 hk1 hS => ?_)
    obtain ⟨hP, hD, hK⟩ := Bq.join (wr := [(m0, .inl (cM, 8, .inr (.inr (.inr (.inr (fun _ => none))))))]) hB ht hvm hP hD [1, 2] [0] rfl rfl (by decide) (by decide) hk1 hFc hK
    generalize H1 = H at hP hS ⊢
    have hP : va_P (dC, dI) vwCl [(m0, .inl (cM, 8, .inr (.inr (.inr (.inr (fun _ => none)))))), (h0, .inr (10, [.ref t0, .ref r0, .ref m0, .ref x0, v4, v5, v6, v7, v8, .int 0, .int (-1), .int 0])), (r0, .inl (cR, 4, .inr (.inr (.inr (.inr fR)))))] H := hP
    have hD : va_D A [(m0, .inl (cM, 8, .inr (.inr (.inr (.inr (fun _ => none)))))), (h0, .inr (10, [.ref t0, .ref r0, .ref m0, .ref x0, v4, v5, v6, v7, v8, .int 0, .int (-1), .int 0])), (r0, .inl (cR, 4, .inr (.inr (.inr (.inr fR)))))] := hD
    have hK : va_K (dC, dI) vwCl [(cM, .object RX1), (cR, .object RX5)] s := hK
    try dsimp only at hw_5
    rcases r_4 with _ | a_6
    · refine W.eq (g2 := F0 m 12 ls [.null]) rfl ?_
      refine lv_astoreN (lv' := [(5, .null), (4, .null), (0, .ref h0), (1, .int p0), (2, .int p1), (3, .int p2)]) hx hb dX8_write_12 hl (by decide) rfl (fun ls hl => ?_)
      refine lv_aload_n hx hb dX8_write_14 rfl (lv_at hl 2 rfl) ?_
      refine va_get (D := (dC, dI)) (ci := 10) (v := .ref m0) (C := RX8) (T := TX8) (N := 12) hx hb hts iRX8 hown hK hP 1 rfl rfl 2 (by decide) (hts (.fieldLink RX8 24 "RecordBench" "makes" "[LRecordBench$Make;") (by decide +kernel)) (fun _ h9 => h9) rfl dX8_write_15 ?_
      refine lv_iload_n hx hb dX8_write_18 rfl (lv_at hl 4 rfl) ?_
      have hFc := va_free (wc := [(m0, .inl (cM, 8, .inr (.inr (.inr (.inr (fun _ => none))))))]) hD hS hA [0] rfl
      refine va_callq (va_runS (As := [.ref m0, .int p1]) (rest := []) ⟨hx, hb, hml, hown, hts⟩ (c_X8_makeOf l dC dI m0 p1 cM H.size) (cwS 2 hts gp_X8_write_X8_makeOf_136 rfl rfl rfl (by decide +kernel) ⟨Nat.le_of_ble_eq_true rfl, Nat.le_of_ble_eq_true rfl⟩) ⟨Pr.blind _, fun U hU hW => ⟨rfl, Pr.at (hP.sub (ws' := [(m0, .inl (cM, 8, .inr (.inr (.inr (.inr (fun _ => none))))))]) [0] rfl) (hK.sub (tys' := [(cM, .object RX1)]) [0] rfl) (hD.sub (ws' := [(m0, .inl (cM, 8, .inr (.inr (.inr (.inr (fun _ => none))))))]) [0] (by decide) rfl) hN hZ hS hFc hU hW⟩⟩ rfl rfl hl.1 rfl (lv_room (Nat.le_of_ble_eq_true rfl)) dX8_write_19 ⟨Nat.le_of_ble_eq_true rfl, Nat.le_of_ble_eq_true rfl⟩) hS (fun q _ h => hFc q h) hFc (fun r_7 u t H1 locs ht hvm hw_8 hB hz1 hk1 hS => ?_)
      obtain ⟨hP, hD, hK⟩ := Bq.join (wr := [(h0, .inr (10, [.ref t0, .ref r0, .ref m0, .ref x0, v4, v5, v6, v7, v8, .int 0, .int (-1), .int 0])), (r0, .inl (cR, 4, .inr (.inr (.inr (.inr fR)))))]) hB ht hvm hP hD [0] [1, 2] rfl rfl (by decide) (by decide) hk1 hFc hK
      generalize H1 = H at hP hS ⊢
      have hP : va_P (dC, dI) vwCl [(h0, .inr (10, [.ref t0, .ref r0, .ref m0, .ref x0, v4, v5, v6, v7, v8, .int 0, .int (-1), .int 0])), (r0, .inl (cR, 4, .inr (.inr (.inr (.inr fR))))), (m0, .inl (cM, 8, .inr (.inr (.inr (.inr (fun _ => none))))))] H := hP
      have hD : va_D A [(h0, .inr (10, [.ref t0, .ref r0, .ref m0, .ref x0, v4, v5, v6, v7, v8, .int 0, .int (-1), .int 0])), (r0, .inl (cR, 4, .inr (.inr (.inr (.inr fR))))), (m0, .inl (cM, 8, .inr (.inr (.inr (.inr (fun _ => none))))))] := hD
      have hK : va_K (dC, dI) vwCl [(cM, .object RX1), (cR, .object RX5)] s := hK
      try dsimp only at hw_8
      have k_9 := hw_8
      subst k_9
      refine W.eq (g2 := F0 m 22 ls [.null]) rfl ?_
      refine lv_astoreN (lv' := [(6, .null), (5, .null), (4, .null), (0, .ref h0), (1, .int p0), (2, .int p1), (3, .int p2)]) hx hb dX8_write_22 hl (by decide) rfl (fun ls hl => ?_)
      refine lv_aloadN hx hb dX8_write_24 (lv_at hl 2 rfl) ?_
      refine lv_ifnullN (tgt := 39) hx hb dX8_write_26 (by decide) ?_
      refine lv_iconst (v := (-1)) hx hb dX8_write_39 (by decide) ?_
      have hP9 := hP.sub (ws' := []) [] rfl
      have hD9 := hD.sub (ws' := []) [] (by decide) rfl
      have hK9 := hK.sub (tys' := []) [] rfl
      exact W.iret (v := (-1)) hx hb hr (fun t ht hW => ⟨⟨(-1), (), rfl, rfl, by rw [ht]; exact hP9, va_K.moved hW.alike hK9, hD9⟩, hS.F ht⟩) hS.2.2 dX8_write_40
    · refine W.eq (g2 := F0 m 12 ls [.ref a_6]) rfl ?_
      refine lv_astore (lv' := [(5, .ref a_6), (4, .null), (0, .ref h0), (1, .int p0), (2, .int p1), (3, .int p2)]) hx hb dX8_write_12 hl (by decide) rfl (fun ls hl => ?_)
      refine lv_aload_n hx hb dX8_write_14 rfl (lv_at hl 2 rfl) ?_
      refine va_get (D := (dC, dI)) (ci := 10) (v := .ref m0) (C := RX8) (T := TX8) (N := 12) hx hb hts iRX8 hown hK hP 1 rfl rfl 2 (by decide) (hts (.fieldLink RX8 24 "RecordBench" "makes" "[LRecordBench$Make;") (by decide +kernel)) (fun _ h9 => h9) rfl dX8_write_15 ?_
      refine lv_iload_n hx hb dX8_write_18 rfl (lv_at hl 4 rfl) ?_
      have hFc := va_free (wc := [(m0, .inl (cM, 8, .inr (.inr (.inr (.inr (fun _ => none))))))]) hD hS hA [0] rfl
      refine va_callq (va_runS (As := [.ref m0, .int p1]) (rest := []) ⟨hx, hb, hml, hown, hts⟩ (c_X8_makeOf l dC dI m0 p1 cM H.size) (cwS 2 hts gp_X8_write_X8_makeOf_136 rfl rfl rfl (by decide +kernel) ⟨Nat.le_of_ble_eq_true rfl, Nat.le_of_ble_eq_true rfl⟩) ⟨Pr.blind _, fun U hU hW => ⟨rfl, Pr.at (hP.sub (ws' := [(m0, .inl (cM, 8, .inr (.inr (.inr (.inr (fun _ => none))))))]) [0] rfl) (hK.sub (tys' := [(cM, .object RX1)]) [0] rfl) (hD.sub (ws' := [(m0, .inl (cM, 8, .inr (.inr (.inr (.inr (fun _ => none))))))]) [0] (by decide) rfl) hN hZ hS hFc hU hW⟩⟩ rfl rfl hl.1 rfl (lv_room (Nat.le_of_ble_eq_true rfl)) dX8_write_19 ⟨Nat.le_of_ble_eq_true rfl, Nat.le_of_ble_eq_true rfl⟩) hS (fun q _ h => hFc q h) hFc (fun r_10 u t H1 locs ht hvm hw_11 hB hz1 hk1 hS => ?_)
      obtain ⟨hP, hD, hK⟩ := Bq.join (wr := [(h0, .inr (10, [.ref t0, .ref r0, .ref m0, .ref x0, v4, v5, v6, v7, v8, .int 0, .int (-1), .int 0])), (r0, .inl (cR, 4, .inr (.inr (.inr (.inr fR)))))]) hB ht hvm hP hD [0] [1, 2] rfl rfl (by decide) (by decide) hk1 hFc hK
      generalize H1 = H at hP hS ⊢
      have hP : va_P (dC, dI) vwCl [(h0, .inr (10, [.ref t0, .ref r0, .ref m0, .ref x0, v4, v5, v6, v7, v8, .int 0, .int (-1), .int 0])), (r0, .inl (cR, 4, .inr (.inr (.inr (.inr fR))))), (m0, .inl (cM, 8, .inr (.inr (.inr (.inr (fun _ => none))))))] H := hP
      have hD : va_D A [(h0, .inr (10, [.ref t0, .ref r0, .ref m0, .ref x0, v4, v5, v6, v7, v8, .int 0, .int (-1), .int 0])), (r0, .inl (cR, 4, .inr (.inr (.inr (.inr fR))))), (m0, .inl (cM, 8, .inr (.inr (.inr (.inr (fun _ => none))))))] := hD
      have hK : va_K (dC, dI) vwCl [(cM, .object RX1), (cR, .object RX5)] s := hK
      try dsimp only at hw_11
      have k_12 := hw_11
      subst k_12
      refine W.eq (g2 := F0 m 22 ls [.null]) rfl ?_
      refine lv_astoreN (lv' := [(6, .null), (5, .ref a_6), (4, .null), (0, .ref h0), (1, .int p0), (2, .int p1), (3, .int p2)]) hx hb dX8_write_22 hl (by decide) rfl (fun ls hl => ?_)
      refine lv_aloadN hx hb dX8_write_24 (lv_at hl 2 rfl) ?_
      refine lv_ifnullN (tgt := 39) hx hb dX8_write_26 (by decide) ?_
      refine lv_iconst (v := (-1)) hx hb dX8_write_39 (by decide) ?_
      have hP9 := hP.sub (ws' := []) [] rfl
      have hD9 := hD.sub (ws' := []) [] (by decide) rfl
      have hK9 := hK.sub (tys' := []) [] rfl
      exact W.iret (v := (-1)) hx hb hr (fun t ht hW => ⟨⟨(-1), (), rfl, rfl, by rw [ht]; exact hP9, va_K.moved hW.alike hK9, hD9⟩, hS.F ht⟩) hS.2.2 dX8_write_40
  · refine W.eq (g2 := F0 m 5 ls [.ref a_3]) rfl ?_
    refine lv_astore (lv' := [(4, .ref a_3), (0, .ref h0), (1, .int p0), (2, .int p1), (3, .int p2)]) hx hb dX8_write_5 hl (by decide) rfl (fun ls hl => ?_)
    refine lv_aload_n hx hb dX8_write_7 rfl (lv_at hl 1 rfl) ?_
    refine lv_iload_n hx hb dX8_write_8 rfl (lv_at hl 4 rfl) ?_
    have hFc := va_free (wc := [(h0, .inr (10, [.ref t0, .ref r0, .ref m0, .ref x0, v4, v5, v6, v7, v8, .int 0, .int (-1), .int 0])), (r0, .inl (cR, 4, .inr (.inr (.inr (.inr fR)))))]) hD hS hA [1, 2] rfl
    refine va_callq (va_runV (As := [.int p2]) (rest := []) ⟨hx, hb, hml, hown, hts⟩ (c_X8_recordAny l dC dI h0 t0 r0 m0 x0 (v4) (v5) (v6) (v7) (v8) cR fR p2 H.size) (cwV 1 hts gp_X8_write_X8_recordAny_128 rfl rfl rfl (by decide +kernel) ⟨Nat.le_of_ble_eq_true rfl, Nat.le_of_ble_eq_true rfl⟩) ⟨Pr.blind _, va_recv hK hP (ci := 10) (q0 := 1) rfl rfl, fun U hU hW => ⟨rfl, Pr.at (hP.sub (ws' := [(h0, .inr (10, [.ref t0, .ref r0, .ref m0, .ref x0, v4, v5, v6, v7, v8, .int 0, .int (-1), .int 0])), (r0, .inl (cR, 4, .inr (.inr (.inr (.inr fR)))))]) [1, 2] rfl) (hK.sub (tys' := [(cR, .object RX5)]) [1] rfl) (hD.sub (ws' := [(h0, .inr (10, [.ref t0, .ref r0, .ref m0, .ref x0, v4, v5, v6, v7, v8, .int 0, .int (-1), .int 0])), (r0, .inl (cR, 4, .inr (.inr (.inr (.inr fR)))))]) [1, 2] (by decide) rfl) hN hZ hS hFc hU hW⟩⟩ rfl rfl hl.1 rfl (lv_room (Nat.le_of_ble_eq_true rfl)) dX8_write_9 ⟨Nat.le_of_ble_eq_true rfl, Nat.le_of_ble_eq_true rfl⟩) hS (fun q _ h => hFc q h) hFc (fun r_13 u t H1 locs ht hvm hw_14 hB hz1 hk1 hS => ?_)
    obtain ⟨hP, hD, hK⟩ := Bq.join (wr := [(m0, .inl (cM, 8, .inr (.inr (.inr (.inr (fun _ => none))))))]) hB ht hvm hP hD [1, 2] [0] rfl rfl (by decide) (by decide) hk1 hFc hK
    generalize H1 = H at hP hS ⊢
    have hP : va_P (dC, dI) vwCl [(m0, .inl (cM, 8, .inr (.inr (.inr (.inr (fun _ => none)))))), (h0, .inr (10, [.ref t0, .ref r0, .ref m0, .ref x0, v4, v5, v6, v7, v8, .int 0, .int (-1), .int 0])), (r0, .inl (cR, 4, .inr (.inr (.inr (.inr fR)))))] H := hP
    have hD : va_D A [(m0, .inl (cM, 8, .inr (.inr (.inr (.inr (fun _ => none)))))), (h0, .inr (10, [.ref t0, .ref r0, .ref m0, .ref x0, v4, v5, v6, v7, v8, .int 0, .int (-1), .int 0])), (r0, .inl (cR, 4, .inr (.inr (.inr (.inr fR)))))] := hD
    have hK : va_K (dC, dI) vwCl [(cM, .object RX1), (cR, .object RX5)] s := hK
    try dsimp only at hw_14
    rcases r_13 with _ | a_15
    · refine W.eq (g2 := F0 m 12 ls [.null]) rfl ?_
      refine lv_astoreN (lv' := [(5, .null), (4, .ref a_3), (0, .ref h0), (1, .int p0), (2, .int p1), (3, .int p2)]) hx hb dX8_write_12 hl (by decide) rfl (fun ls hl => ?_)
      refine lv_aload_n hx hb dX8_write_14 rfl (lv_at hl 2 rfl) ?_
      refine va_get (D := (dC, dI)) (ci := 10) (v := .ref m0) (C := RX8) (T := TX8) (N := 12) hx hb hts iRX8 hown hK hP 1 rfl rfl 2 (by decide) (hts (.fieldLink RX8 24 "RecordBench" "makes" "[LRecordBench$Make;") (by decide +kernel)) (fun _ h9 => h9) rfl dX8_write_15 ?_
      refine lv_iload_n hx hb dX8_write_18 rfl (lv_at hl 4 rfl) ?_
      have hFc := va_free (wc := [(m0, .inl (cM, 8, .inr (.inr (.inr (.inr (fun _ => none))))))]) hD hS hA [0] rfl
      refine va_callq (va_runS (As := [.ref m0, .int p1]) (rest := []) ⟨hx, hb, hml, hown, hts⟩ (c_X8_makeOf l dC dI m0 p1 cM H.size) (cwS 2 hts gp_X8_write_X8_makeOf_136 rfl rfl rfl (by decide +kernel) ⟨Nat.le_of_ble_eq_true rfl, Nat.le_of_ble_eq_true rfl⟩) ⟨Pr.blind _, fun U hU hW => ⟨rfl, Pr.at (hP.sub (ws' := [(m0, .inl (cM, 8, .inr (.inr (.inr (.inr (fun _ => none))))))]) [0] rfl) (hK.sub (tys' := [(cM, .object RX1)]) [0] rfl) (hD.sub (ws' := [(m0, .inl (cM, 8, .inr (.inr (.inr (.inr (fun _ => none))))))]) [0] (by decide) rfl) hN hZ hS hFc hU hW⟩⟩ rfl rfl hl.1 rfl (lv_room (Nat.le_of_ble_eq_true rfl)) dX8_write_19 ⟨Nat.le_of_ble_eq_true rfl, Nat.le_of_ble_eq_true rfl⟩) hS (fun q _ h => hFc q h) hFc (fun r_16 u t H1 locs ht hvm hw_17 hB hz1 hk1 hS => ?_)
      obtain ⟨hP, hD, hK⟩ := Bq.join (wr := [(h0, .inr (10, [.ref t0, .ref r0, .ref m0, .ref x0, v4, v5, v6, v7, v8, .int 0, .int (-1), .int 0])), (r0, .inl (cR, 4, .inr (.inr (.inr (.inr fR)))))]) hB ht hvm hP hD [0] [1, 2] rfl rfl (by decide) (by decide) hk1 hFc hK
      generalize H1 = H at hP hS ⊢
      have hP : va_P (dC, dI) vwCl [(h0, .inr (10, [.ref t0, .ref r0, .ref m0, .ref x0, v4, v5, v6, v7, v8, .int 0, .int (-1), .int 0])), (r0, .inl (cR, 4, .inr (.inr (.inr (.inr fR))))), (m0, .inl (cM, 8, .inr (.inr (.inr (.inr (fun _ => none))))))] H := hP
      have hD : va_D A [(h0, .inr (10, [.ref t0, .ref r0, .ref m0, .ref x0, v4, v5, v6, v7, v8, .int 0, .int (-1), .int 0])), (r0, .inl (cR, 4, .inr (.inr (.inr (.inr fR))))), (m0, .inl (cM, 8, .inr (.inr (.inr (.inr (fun _ => none))))))] := hD
      have hK : va_K (dC, dI) vwCl [(cM, .object RX1), (cR, .object RX5)] s := hK
      try dsimp only at hw_17
      have k_18 := hw_17
      subst k_18
      refine W.eq (g2 := F0 m 22 ls [.null]) rfl ?_
      refine lv_astoreN (lv' := [(6, .null), (5, .null), (4, .ref a_3), (0, .ref h0), (1, .int p0), (2, .int p1), (3, .int p2)]) hx hb dX8_write_22 hl (by decide) rfl (fun ls hl => ?_)
      refine lv_aload hx hb dX8_write_24 (lv_at hl 2 rfl) ?_
      refine lv_ifnull hx hb dX8_write_26 ?_
      refine lv_aloadN hx hb dX8_write_29 (lv_at hl 1 rfl) ?_
      refine lv_ifnullN (tgt := 39) hx hb dX8_write_31 (by decide) ?_
      refine lv_iconst (v := (-1)) hx hb dX8_write_39 (by decide) ?_
      have hP9 := hP.sub (ws' := []) [] rfl
      have hD9 := hD.sub (ws' := []) [] (by decide) rfl
      have hK9 := hK.sub (tys' := []) [] rfl
      exact W.iret (v := (-1)) hx hb hr (fun t ht hW => ⟨⟨(-1), (), rfl, rfl, by rw [ht]; exact hP9, va_K.moved hW.alike hK9, hD9⟩, hS.F ht⟩) hS.2.2 dX8_write_40
    · refine W.eq (g2 := F0 m 12 ls [.ref a_15]) rfl ?_
      refine lv_astore (lv' := [(5, .ref a_15), (4, .ref a_3), (0, .ref h0), (1, .int p0), (2, .int p1), (3, .int p2)]) hx hb dX8_write_12 hl (by decide) rfl (fun ls hl => ?_)
      refine lv_aload_n hx hb dX8_write_14 rfl (lv_at hl 2 rfl) ?_
      refine va_get (D := (dC, dI)) (ci := 10) (v := .ref m0) (C := RX8) (T := TX8) (N := 12) hx hb hts iRX8 hown hK hP 1 rfl rfl 2 (by decide) (hts (.fieldLink RX8 24 "RecordBench" "makes" "[LRecordBench$Make;") (by decide +kernel)) (fun _ h9 => h9) rfl dX8_write_15 ?_
      refine lv_iload_n hx hb dX8_write_18 rfl (lv_at hl 4 rfl) ?_
      have hFc := va_free (wc := [(m0, .inl (cM, 8, .inr (.inr (.inr (.inr (fun _ => none))))))]) hD hS hA [0] rfl
      refine va_callq (va_runS (As := [.ref m0, .int p1]) (rest := []) ⟨hx, hb, hml, hown, hts⟩ (c_X8_makeOf l dC dI m0 p1 cM H.size) (cwS 2 hts gp_X8_write_X8_makeOf_136 rfl rfl rfl (by decide +kernel) ⟨Nat.le_of_ble_eq_true rfl, Nat.le_of_ble_eq_true rfl⟩) ⟨Pr.blind _, fun U hU hW => ⟨rfl, Pr.at (hP.sub (ws' := [(m0, .inl (cM, 8, .inr (.inr (.inr (.inr (fun _ => none))))))]) [0] rfl) (hK.sub (tys' := [(cM, .object RX1)]) [0] rfl) (hD.sub (ws' := [(m0, .inl (cM, 8, .inr (.inr (.inr (.inr (fun _ => none))))))]) [0] (by decide) rfl) hN hZ hS hFc hU hW⟩⟩ rfl rfl hl.1 rfl (lv_room (Nat.le_of_ble_eq_true rfl)) dX8_write_19 ⟨Nat.le_of_ble_eq_true rfl, Nat.le_of_ble_eq_true rfl⟩) hS (fun q _ h => hFc q h) hFc (fun r_19 u t H1 locs ht hvm hw_20 hB hz1 hk1 hS => ?_)
      obtain ⟨hP, hD, hK⟩ := Bq.join (wr := [(h0, .inr (10, [.ref t0, .ref r0, .ref m0, .ref x0, v4, v5, v6, v7, v8, .int 0, .int (-1), .int 0])), (r0, .inl (cR, 4, .inr (.inr (.inr (.inr fR)))))]) hB ht hvm hP hD [0] [1, 2] rfl rfl (by decide) (by decide) hk1 hFc hK
      generalize H1 = H at hP hS ⊢
      have hP : va_P (dC, dI) vwCl [(h0, .inr (10, [.ref t0, .ref r0, .ref m0, .ref x0, v4, v5, v6, v7, v8, .int 0, .int (-1), .int 0])), (r0, .inl (cR, 4, .inr (.inr (.inr (.inr fR))))), (m0, .inl (cM, 8, .inr (.inr (.inr (.inr (fun _ => none))))))] H := hP
      have hD : va_D A [(h0, .inr (10, [.ref t0, .ref r0, .ref m0, .ref x0, v4, v5, v6, v7, v8, .int 0, .int (-1), .int 0])), (r0, .inl (cR, 4, .inr (.inr (.inr (.inr fR))))), (m0, .inl (cM, 8, .inr (.inr (.inr (.inr (fun _ => none))))))] := hD
      have hK : va_K (dC, dI) vwCl [(cM, .object RX1), (cR, .object RX5)] s := hK
      try dsimp only at hw_20
      have k_21 := hw_20
      subst k_21
      refine W.eq (g2 := F0 m 22 ls [.null]) rfl ?_
      refine lv_astoreN (lv' := [(6, .null), (5, .ref a_15), (4, .ref a_3), (0, .ref h0), (1, .int p0), (2, .int p1), (3, .int p2)]) hx hb dX8_write_22 hl (by decide) rfl (fun ls hl => ?_)
      refine lv_aload hx hb dX8_write_24 (lv_at hl 2 rfl) ?_
      refine lv_ifnull hx hb dX8_write_26 ?_
      refine lv_aload hx hb dX8_write_29 (lv_at hl 1 rfl) ?_
      refine lv_ifnull hx hb dX8_write_31 ?_
      refine lv_aloadN hx hb dX8_write_34 (lv_at hl 0 rfl) ?_
      refine lv_ifnonnullN hx hb dX8_write_36 ?_
      refine lv_iconst (v := (-1)) hx hb dX8_write_39 (by decide) ?_
      have hP9 := hP.sub (ws' := []) [] rfl
      have hD9 := hD.sub (ws' := []) [] (by decide) rfl
      have hK9 := hK.sub (tys' := []) [] rfl
      exact W.iret (v := (-1)) hx hb hr (fun t ht hW => ⟨⟨(-1), (), rfl, rfl, by rw [ht]; exact hP9, va_K.moved hW.alike hK9, hD9⟩, hS.F ht⟩) hS.2.2 dX8_write_40
def wp_X8_open : List Cond := .code yX8_open cX8_open 10 (some .int) :: ([.methodLink RX8 128 yX8_recordOf, .instanceMethod yX8_recordOf, .selects RX8 yX8_recordOf yX8_recordOf, .initialized RX8, .fieldLink RX8 24 "RecordBench" "makes" "[LRecordBench$Make;", .methodLink RX8 136 yX8_makeOf, .static yX8_makeOf, .methodLink RX8 100 yX8_fieldOf, .instanceMethod yX8_fieldOf, .selects RX8 yX8_fieldOf yX8_fieldOf, .code yX8_recordOf cX8_recordOf 2 (some (.object "RecordBench$Row")), .fieldLink RX8 18 "RecordBench" "records" "[LRecordBench$Row;", .code yX8_makeOf cX8_makeOf 2 (some (.object "RecordBench$Make")), .code yX8_fieldOf cX8_fieldOf 4 (some (.object "RecordBench$Field"))] ++ wsX80)
set_option maxRecDepth 20000 in
theorem gp_X8_open_X8_recordAny_128 : GoodIn wp_X8_open (wsV RX8 128 RX8 yX8_recordOf wp_X8_recordAny) := goodIn_p _ [11] rfl (by decide +kernel)
set_option maxRecDepth 20000 in
theorem gp_X8_open_X8_makeOf_136 : GoodIn wp_X8_open (wsS RX8 136 yX8_makeOf wp_X8_makeOf) := goodIn_p _ [13] rfl (by decide +kernel)
set_option maxRecDepth 20000 in
theorem gp_X8_open_X8_fieldOf_100 : GoodIn wp_X8_open (wsV RX8 100 RX8 yX8_fieldOf wp_X8_fieldOf) := goodIn_p _ [14, 13] rfl (by decide +kernel)
set_option maxHeartbeats 4000000 in
set_option maxRecDepth 100000 in
theorem c_X8_open (l : Launch) (dC : Nat → ClassId) (dI : Nat → Nat → Nat) (h0 : Nat) (t0 : Nat) (r0 : Nat) (m0 : Nat) (x0 : Nat) (v4 : Value) (v5 : Value) (v6 : Value) (v7 : Value) (v8 : Value) (cM : ClassId) (cR : ClassId) (fR : Nat → Option Nat) (p0 : Int32) (p1 : Int32) (p2 : Int32) (p3 : Int32) (sz : Nat) : Met l yX8_open wp_X8_open ({ frames := 2, cells := 0, slots := 0, locals := 52 }) (va_Pc [.ref h0, .int p0, .int p1, .int p2, .int p3] (Pr (dC, dI) [(cM, .object RX1), (cR, .object RX5)] [(h0, .inr (10, [.ref t0, .ref r0, .ref m0, .ref x0, v4, v5, v6, v7, v8, .int 0, .int ((-1)), .int 0])), (m0, .inl (cM, 8, .inr (.inr (.inr (.inr (fun _ => none)))))), (r0, .inl (cR, 4, .inr (.inr (.inr (.inr fR)))))] sz)) (va_Qi (fun r : Int32 => (fun _ : Unit => r = -1)) (Bq (dC, dI) (fun _ : Unit => []) (fun _ : Unit => []) (va_A [(h0, .inr (10, [.ref t0, .ref r0, .ref m0, .ref x0, v4, v5, v6, v7, v8, .int 0, .int ((-1)), .int 0])), (m0, .inl (cM, 8, .inr (.inr (.inr (.inr (fun _ => none)))))), (r0, .inl (cR, 4, .inr (.inr (.inr (.inr fR)))))] sz)) (va_A [(h0, .inr (10, [.ref t0, .ref r0, .ref m0, .ref x0, v4, v5, v6, v7, v8, .int 0, .int ((-1)), .int 0])), (m0, .inl (cM, 8, .inr (.inr (.inr (.inr (fun _ => none)))))), (r0, .inl (cR, 4, .inr (.inr (.inr (.inr fR)))))] sz)) 0 0 (va_A [(h0, .inr (10, [.ref t0, .ref r0, .ref m0, .ref x0, v4, v5, v6, v7, v8, .int 0, .int ((-1)), .int 0])), (m0, .inl (cM, 8, .inr (.inr (.inr (.inr (fun _ => none)))))), (r0, .inl (cR, 4, .inr (.inr (.inr (.inr fR)))))] sz) := by
  refine Met.ofW (cc := cX8_open) (maxL := 10) (ret := (some .int)) (by decide) rfl ?_
  intro p e s m args below meth c s₁ B hml hv
  obtain ⟨rfl, hsz, hP, hK, hD0, hN, hZ⟩ := hv
  have hx := B.exec
  have hb := B.bytes
  have hr := B.returns
  have hts := atoms_spec (ws := wp_X8_open) B.pre
  have hown : s.vm.findClass RX8 = some m.cls := findClass_of_methodNamed B.named
  have hlocks := B.notSynchronized
  have iRX8 : ∀ w ∈ u_ws RX8 TX8 12, w ∈ wp_X8_open := by decide +kernel
  subst hsz
  have hD := hD0.self (sz := s.heap.size)
  generalize hAe : va_A [(h0, .inr (10, [.ref t0, .ref r0, .ref m0, .ref x0, v4, v5, v6, v7, v8, .int 0, .int ((-1)), .int 0])), (m0, .inl (cM, 8, .inr (.inr (.inr (.inr (fun _ => none)))))), (r0, .inl (cR, 4, .inr (.inr (.inr (.inr fR)))))] s.heap.size = A at hD hZ ⊢
  have hA : ∀ q : Nat, s.heap.size ≤ q → A q := fun q h => by rw [← hAe]; exact Or.inr h
  have hS : va_S A s.heap s.heap [] := va_S.rf
  have hP : va_P (dC, dI) vwCl [(h0, .inr (10, [.ref t0, .ref r0, .ref m0, .ref x0, v4, v5, v6, v7, v8, .int 0, .int ((-1)), .int 0])), (m0, .inl (cM, 8, .inr (.inr (.inr (.inr (fun _ => none)))))), (r0, .inl (cR, 4, .inr (.inr (.inr (.inr fR)))))] s.heap := hP
  have hl := lv_entry ([.ref h0, .int p0, .int p1, .int p2, .int p3]) (n := 10) (Nat.le_of_ble_eq_true rfl)
  rw [lg_entry_eq]
  generalize (lg_sl ([.ref h0, .int p0, .int p1, .int p2, .int p3]) ++ List.replicate (10 - (lg_sl ([.ref h0, .int p0, .int p1, .int p2, .int p3])).length) Slot.unset).toArray = ls at hl ⊢
  have hl : lv_has ls 10 [(0, .ref h0), (1, .int p0), (2, .int p1), (3, .int p2), (4, .int p3)] := hl
  refine lv_aload_n hx hb dX8_open_0 rfl (lv_at hl 0 rfl) ?_
  refine lv_iload_n hx hb dX8_open_1 rfl (lv_at hl 1 rfl) ?_
  have hFc := va_free (wc := [(h0, .inr (10, [.ref t0, .ref r0, .ref m0, .ref x0, v4, v5, v6, v7, v8, .int 0, .int ((-1)), .int 0])), (r0, .inl (cR, 4, .inr (.inr (.inr (.inr fR)))))]) hD hS hA [0, 2] rfl
  refine va_callq (va_runV (As := [.int p0]) (rest := []) ⟨hx, hb, hml, hown, hts⟩ (c_X8_recordAny l dC dI h0 t0 r0 m0 x0 (v4) (v5) (v6) (v7) (v8) cR fR p0 s.heap.size) (cwV 1 hts gp_X8_open_X8_recordAny_128 rfl rfl rfl (by decide +kernel) ⟨Nat.le_of_ble_eq_true rfl, Nat.le_of_ble_eq_true rfl⟩) ⟨Pr.blind _, va_recv hK hP (ci := 10) (q0 := 0) rfl rfl, fun U hU hW => ⟨rfl, Pr.at (hP.sub (ws' := [(h0, .inr (10, [.ref t0, .ref r0, .ref m0, .ref x0, v4, v5, v6, v7, v8, .int 0, .int ((-1)), .int 0])), (r0, .inl (cR, 4, .inr (.inr (.inr (.inr fR)))))]) [0, 2] rfl) (hK.sub (tys' := [(cR, .object RX5)]) [1] rfl) (hD.sub (ws' := [(h0, .inr (10, [.ref t0, .ref r0, .ref m0, .ref x0, v4, v5, v6, v7, v8, .int 0, .int ((-1)), .int 0])), (r0, .inl (cR, 4, .inr (.inr (.inr (.inr fR)))))]) [0, 2] (by decide) rfl) hN hZ hS hFc hU hW⟩⟩ rfl rfl hl.1 rfl (lv_room (Nat.le_of_ble_eq_true rfl)) dX8_open_2 ⟨Nat.le_of_ble_eq_true rfl, Nat.le_of_ble_eq_true rfl⟩) hS (fun q _ h => hFc q h) hFc (fun r_1 u t H1 locs ht hvm hw_2 hB hz1 hk1 hS => ?_)
  obtain ⟨hP, hD, hK⟩ := Bq.join (wr := [(m0, .inl (cM, 8, .inr (.inr (.inr (.inr (fun _ => none))))))]) hB ht hvm hP hD [0, 2] [1] rfl rfl (by decide) (by decide) hk1 hFc hK
  generalize H1 = H at hP hS ⊢
  have hP : va_P (dC, dI) vwCl [(m0, .inl (cM, 8, .inr (.inr (.inr (.inr (fun _ => none)))))), (h0, .inr (10, [.ref t0, .ref r0, .ref m0, .ref x0, v4, v5, v6, v7, v8, .int 0, .int (-1), .int 0])), (r0, .inl (cR, 4, .inr (.inr (.inr (.inr fR)))))] H := hP
  have hD : va_D A [(m0, .inl (cM, 8, .inr (.inr (.inr (.inr (fun _ => none)))))), (h0, .inr (10, [.ref t0, .ref r0, .ref m0, .ref x0, v4, v5, v6, v7, v8, .int 0, .int (-1), .int 0])), (r0, .inl (cR, 4, .inr (.inr (.inr (.inr fR)))))] := hD
  have hK : va_K (dC, dI) vwCl [(cM, .object RX1), (cR, .object RX5)] s := hK
  try dsimp only at hw_2
  rcases r_1 with _ | a_3
  · refine W.eq (g2 := F0 m 5 ls [.null]) rfl ?_
    refine lv_astoreN (lv' := [(5, .null), (0, .ref h0), (1, .int p0), (2, .int p1), (3, .int p2), (4, .int p3)]) hx hb dX8_open_5 hl (by decide) rfl (fun ls hl => ?_)
    refine lv_aload_n hx hb dX8_open_7 rfl (lv_at hl 1 rfl) ?_
    refine lv_iload hx hb dX8_open_8 (lv_at hl 5 rfl) ?_
    have hFc := va_free (wc := [(h0, .inr (10, [.ref t0, .ref r0, .ref m0, .ref x0, v4, v5, v6, v7, v8, .int 0, .int (-1), .int 0])), (r0, .inl (cR, 4, .inr (.inr (.inr (.inr fR)))))]) hD hS hA [1, 2] rfl
    refine va_callq (va_runV (As := [.int p3]) (rest := []) ⟨hx, hb, hml, hown, hts⟩ (c_X8_recordAny l dC dI h0 t0 r0 m0 x0 (v4) (v5) (v6) (v7) (v8) cR fR p3 H.size) (cwV 1 hts gp_X8_open_X8_recordAny_128 rfl rfl rfl (by decide +kernel) ⟨Nat.le_of_ble_eq_true rfl, Nat.le_of_ble_eq_true rfl⟩) ⟨Pr.blind _, va_recv hK hP (ci := 10) (q0 := 1) rfl rfl, fun U hU hW => ⟨rfl, Pr.at (hP.sub (ws' := [(h0, .inr (10, [.ref t0, .ref r0, .ref m0, .ref x0, v4, v5, v6, v7, v8, .int 0, .int (-1), .int 0])), (r0, .inl (cR, 4, .inr (.inr (.inr (.inr fR)))))]) [1, 2] rfl) (hK.sub (tys' := [(cR, .object RX5)]) [1] rfl) (hD.sub (ws' := [(h0, .inr (10, [.ref t0, .ref r0, .ref m0, .ref x0, v4, v5, v6, v7, v8, .int 0, .int (-1), .int 0])), (r0, .inl (cR, 4, .inr (.inr (.inr (.inr fR)))))]) [1, 2] (by decide) rfl) hN hZ hS hFc hU hW⟩⟩ rfl rfl hl.1 rfl (lv_room (Nat.le_of_ble_eq_true rfl)) dX8_open_10 ⟨Nat.le_of_ble_eq_true rfl, Nat.le_of_ble_eq_true rfl⟩) hS (fun q _ h => hFc q h) hFc (fun r_4 u t H1 locs ht hvm hw_5 hB hz1 hk1 hS => ?_)
    obtain ⟨hP, hD, hK⟩ := Bq.join (wr := [(m0, .inl (cM, 8, .inr (.inr (.inr (.inr (fun _ => none))))))]) hB ht hvm hP hD [1, 2] [0] rfl rfl (by decide) (by decide) hk1 hFc hK
    generalize H1 = H at hP hS ⊢
    have hP : va_P (dC, dI) vwCl [(m0, .inl (cM, 8, .inr (.inr (.inr (.inr (fun _ => none)))))), (h0, .inr (10, [.ref t0, .ref r0, .ref m0, .ref x0, v4, v5, v6, v7, v8, .int 0, .int (-1), .int 0])), (r0, .inl (cR, 4, .inr (.inr (.inr (.inr fR)))))] H := hP
    have hD : va_D A [(m0, .inl (cM, 8, .inr (.inr (.inr (.inr (fun _ => none)))))), (h0, .inr (10, [.ref t0, .ref r0, .ref m0, .ref x0, v4, v5, v6, v7, v8, .int 0, .int (-1), .int 0])), (r0, .inl (cR, 4, .inr (.inr (.inr (.inr fR)))))] := hD
    have hK : va_K (dC, dI) vwCl [(cM, .object RX1), (cR, .object RX5)] s := hK
    try dsimp only at hw_5
    rcases r_4 with _ | a_6
    · refine W.eq (g2 := F0 m 13 ls [.null]) rfl ?_
      refine lv_astoreN (lv' := [(6, .null), (5, .null), (0, .ref h0), (1, .int p0), (2, .int p1), (3, .int p2), (4, .int p3)]) hx hb dX8_open_13 hl (by decide) rfl (fun ls hl => ?_)
      refine lv_aload_n hx hb dX8_open_15 rfl (lv_at hl 2 rfl) ?_
      refine va_get (D := (dC, dI)) (ci := 10) (v := .ref m0) (C := RX8) (T := TX8) (N := 12) hx hb hts iRX8 hown hK hP 1 rfl rfl 2 (by decide) (hts (.fieldLink RX8 24 "RecordBench" "makes" "[LRecordBench$Make;") (by decide +kernel)) (fun _ h9 => h9) rfl dX8_open_16 ?_
      refine lv_iload_n hx hb dX8_open_19 rfl (lv_at hl 4 rfl) ?_
      have hFc := va_free (wc := [(m0, .inl (cM, 8, .inr (.inr (.inr (.inr (fun _ => none))))))]) hD hS hA [0] rfl
      refine va_callq (va_runS (As := [.ref m0, .int p1]) (rest := []) ⟨hx, hb, hml, hown, hts⟩ (c_X8_makeOf l dC dI m0 p1 cM H.size) (cwS 2 hts gp_X8_open_X8_makeOf_136 rfl rfl rfl (by decide +kernel) ⟨Nat.le_of_ble_eq_true rfl, Nat.le_of_ble_eq_true rfl⟩) ⟨Pr.blind _, fun U hU hW => ⟨rfl, Pr.at (hP.sub (ws' := [(m0, .inl (cM, 8, .inr (.inr (.inr (.inr (fun _ => none))))))]) [0] rfl) (hK.sub (tys' := [(cM, .object RX1)]) [0] rfl) (hD.sub (ws' := [(m0, .inl (cM, 8, .inr (.inr (.inr (.inr (fun _ => none))))))]) [0] (by decide) rfl) hN hZ hS hFc hU hW⟩⟩ rfl rfl hl.1 rfl (lv_room (Nat.le_of_ble_eq_true rfl)) dX8_open_20 ⟨Nat.le_of_ble_eq_true rfl, Nat.le_of_ble_eq_true rfl⟩) hS (fun q _ h => hFc q h) hFc (fun r_7 u t H1 locs ht hvm hw_8 hB hz1 hk1 hS => ?_)
      obtain ⟨hP, hD, hK⟩ := Bq.join (wr := [(h0, .inr (10, [.ref t0, .ref r0, .ref m0, .ref x0, v4, v5, v6, v7, v8, .int 0, .int (-1), .int 0])), (r0, .inl (cR, 4, .inr (.inr (.inr (.inr fR)))))]) hB ht hvm hP hD [0] [1, 2] rfl rfl (by decide) (by decide) hk1 hFc hK
      generalize H1 = H at hP hS ⊢
      have hP : va_P (dC, dI) vwCl [(h0, .inr (10, [.ref t0, .ref r0, .ref m0, .ref x0, v4, v5, v6, v7, v8, .int 0, .int (-1), .int 0])), (r0, .inl (cR, 4, .inr (.inr (.inr (.inr fR))))), (m0, .inl (cM, 8, .inr (.inr (.inr (.inr (fun _ => none))))))] H := hP
      have hD : va_D A [(h0, .inr (10, [.ref t0, .ref r0, .ref m0, .ref x0, v4, v5, v6, v7, v8, .int 0, .int (-1), .int 0])), (r0, .inl (cR, 4, .inr (.inr (.inr (.inr fR))))), (m0, .inl (cM, 8, .inr (.inr (.inr (.inr (fun _ => none))))))] := hD
      have hK : va_K (dC, dI) vwCl [(cM, .object RX1), (cR, .object RX5)] s := hK
      try dsimp only at hw_8
      have k_9 := hw_8
      subst k_9
      refine W.eq (g2 := F0 m 23 ls [.null]) rfl ?_
      refine lv_astoreN (lv' := [(7, .null), (6, .null), (5, .null), (0, .ref h0), (1, .int p0), (2, .int p1), (3, .int p2), (4, .int p3)]) hx hb dX8_open_23 hl (by decide) rfl (fun ls hl => ?_)
      refine lv_aload_n hx hb dX8_open_25 rfl (lv_at hl 3 rfl) ?_
      refine lv_iload_n hx hb dX8_open_26 rfl (lv_at hl 5 rfl) ?_
      refine lv_iload_n hx hb dX8_open_27 rfl (lv_at hl 6 rfl) ?_
      have hFc := va_free (wc := [(h0, .inr (10, [.ref t0, .ref r0, .ref m0, .ref x0, v4, v5, v6, v7, v8, .int 0, .int (-1), .int 0])), (m0, .inl (cM, 8, .inr (.inr (.inr (.inr (fun _ => none))))))]) hD hS hA [0, 2] rfl
      refine va_callq (va_runV (As := [.int p1, .int p2]) (rest := []) ⟨hx, hb, hml, hown, hts⟩ (c_X8_fieldOf l dC dI h0 t0 r0 m0 x0 (v4) (v5) (v6) (v7) (v8) cM p1 p2 H.size) (cwV 2 hts gp_X8_open_X8_fieldOf_100 rfl rfl rfl (by decide +kernel) ⟨Nat.le_of_ble_eq_true rfl, Nat.le_of_ble_eq_true rfl⟩) ⟨Pr.blind _, va_recv hK hP (ci := 10) (q0 := 0) rfl rfl, fun U hU hW => ⟨rfl, Pr.at (hP.sub (ws' := [(h0, .inr (10, [.ref t0, .ref r0, .ref m0, .ref x0, v4, v5, v6, v7, v8, .int 0, .int (-1), .int 0])), (m0, .inl (cM, 8, .inr (.inr (.inr (.inr (fun _ => none))))))]) [0, 2] rfl) (hK.sub (tys' := [(cM, .object RX1)]) [0] rfl) (hD.sub (ws' := [(h0, .inr (10, [.ref t0, .ref r0, .ref m0, .ref x0, v4, v5, v6, v7, v8, .int 0, .int (-1), .int 0])), (m0, .inl (cM, 8, .inr (.inr (.inr (.inr (fun _ => none))))))]) [0, 2] (by decide) rfl) hN hZ hS hFc hU hW⟩⟩ rfl rfl hl.1 rfl (lv_room (Nat.le_of_ble_eq_true rfl)) dX8_open_28 ⟨Nat.le_of_ble_eq_true rfl, Nat.le_of_ble_eq_true rfl⟩) hS (fun q _ h => hFc q h) hFc (fun r_10 u t H1 locs ht hvm hw_11 hB hz1 hk1 hS => ?_)
      obtain ⟨hP, hD, hK⟩ := Bq.join (wr := [(r0, .inl (cR, 4, .inr (.inr (.inr (.inr fR)))))]) hB ht hvm hP hD [0, 2] [1] rfl rfl (by decide) (by decide) hk1 hFc hK
      generalize H1 = H at hP hS ⊢
      have hP : va_P (dC, dI) vwCl [(r0, .inl (cR, 4, .inr (.inr (.inr (.inr fR))))), (h0, .inr (10, [.ref t0, .ref r0, .ref m0, .ref x0, v4, v5, v6, v7, v8, .int 0, .int (-1), .int 0])), (m0, .inl (cM, 8, .inr (.inr (.inr (.inr (fun _ => none))))))] H := hP
      have hD : va_D A [(r0, .inl (cR, 4, .inr (.inr (.inr (.inr fR))))), (h0, .inr (10, [.ref t0, .ref r0, .ref m0, .ref x0, v4, v5, v6, v7, v8, .int 0, .int (-1), .int 0])), (m0, .inl (cM, 8, .inr (.inr (.inr (.inr (fun _ => none))))))] := hD
      have hK : va_K (dC, dI) vwCl [(cM, .object RX1), (cR, .object RX5)] s := hK
      try dsimp only at hw_11
      have k_12 := hw_11
      subst k_12
      refine W.eq (g2 := F0 m 31 ls [.null]) rfl ?_
      refine lv_astoreN (lv' := [(8, .null), (7, .null), (6, .null), (5, .null), (0, .ref h0), (1, .int p0), (2, .int p1), (3, .int p2), (4, .int p3)]) hx hb dX8_open_31 hl (by decide) rfl (fun ls hl => ?_)
      refine lv_aloadN hx hb dX8_open_33 (lv_at hl 3 rfl) ?_
      refine lv_ifnullN (tgt := 63) hx hb dX8_open_35 (by decide) ?_
      refine lv_iconst (v := (-1)) hx hb dX8_open_63 (by decide) ?_
      have hP9 := hP.sub (ws' := []) [] rfl
      have hD9 := hD.sub (ws' := []) [] (by decide) rfl
      have hK9 := hK.sub (tys' := []) [] rfl
      exact W.iret (v := (-1)) hx hb hr (fun t ht hW => ⟨⟨(-1), (), rfl, rfl, by rw [ht]; exact hP9, va_K.moved hW.alike hK9, hD9⟩, hS.F ht⟩) hS.2.2 dX8_open_64
    · refine W.eq (g2 := F0 m 13 ls [.ref a_6]) rfl ?_
      refine lv_astore (lv' := [(6, .ref a_6), (5, .null), (0, .ref h0), (1, .int p0), (2, .int p1), (3, .int p2), (4, .int p3)]) hx hb dX8_open_13 hl (by decide) rfl (fun ls hl => ?_)
      refine lv_aload_n hx hb dX8_open_15 rfl (lv_at hl 2 rfl) ?_
      refine va_get (D := (dC, dI)) (ci := 10) (v := .ref m0) (C := RX8) (T := TX8) (N := 12) hx hb hts iRX8 hown hK hP 1 rfl rfl 2 (by decide) (hts (.fieldLink RX8 24 "RecordBench" "makes" "[LRecordBench$Make;") (by decide +kernel)) (fun _ h9 => h9) rfl dX8_open_16 ?_
      refine lv_iload_n hx hb dX8_open_19 rfl (lv_at hl 4 rfl) ?_
      have hFc := va_free (wc := [(m0, .inl (cM, 8, .inr (.inr (.inr (.inr (fun _ => none))))))]) hD hS hA [0] rfl
      refine va_callq (va_runS (As := [.ref m0, .int p1]) (rest := []) ⟨hx, hb, hml, hown, hts⟩ (c_X8_makeOf l dC dI m0 p1 cM H.size) (cwS 2 hts gp_X8_open_X8_makeOf_136 rfl rfl rfl (by decide +kernel) ⟨Nat.le_of_ble_eq_true rfl, Nat.le_of_ble_eq_true rfl⟩) ⟨Pr.blind _, fun U hU hW => ⟨rfl, Pr.at (hP.sub (ws' := [(m0, .inl (cM, 8, .inr (.inr (.inr (.inr (fun _ => none))))))]) [0] rfl) (hK.sub (tys' := [(cM, .object RX1)]) [0] rfl) (hD.sub (ws' := [(m0, .inl (cM, 8, .inr (.inr (.inr (.inr (fun _ => none))))))]) [0] (by decide) rfl) hN hZ hS hFc hU hW⟩⟩ rfl rfl hl.1 rfl (lv_room (Nat.le_of_ble_eq_true rfl)) dX8_open_20 ⟨Nat.le_of_ble_eq_true rfl, Nat.le_of_ble_eq_true rfl⟩) hS (fun q _ h => hFc q h) hFc (fun r_13 u t H1 locs ht hvm hw_14 hB hz1 hk1 hS => ?_)
      obtain ⟨hP, hD, hK⟩ := Bq.join (wr := [(h0, .inr (10, [.ref t0, .ref r0, .ref m0, .ref x0, v4, v5, v6, v7, v8, .int 0, .int (-1), .int 0])), (r0, .inl (cR, 4, .inr (.inr (.inr (.inr fR)))))]) hB ht hvm hP hD [0] [1, 2] rfl rfl (by decide) (by decide) hk1 hFc hK
      generalize H1 = H at hP hS ⊢
      have hP : va_P (dC, dI) vwCl [(h0, .inr (10, [.ref t0, .ref r0, .ref m0, .ref x0, v4, v5, v6, v7, v8, .int 0, .int (-1), .int 0])), (r0, .inl (cR, 4, .inr (.inr (.inr (.inr fR))))), (m0, .inl (cM, 8, .inr (.inr (.inr (.inr (fun _ => none))))))] H := hP
      have hD : va_D A [(h0, .inr (10, [.ref t0, .ref r0, .ref m0, .ref x0, v4, v5, v6, v7, v8, .int 0, .int (-1), .int 0])), (r0, .inl (cR, 4, .inr (.inr (.inr (.inr fR))))), (m0, .inl (cM, 8, .inr (.inr (.inr (.inr (fun _ => none))))))] := hD
      have hK : va_K (dC, dI) vwCl [(cM, .object RX1), (cR, .object RX5)] s := hK
      try dsimp only at hw_14
      have k_15 := hw_14
      subst k_15
      refine W.eq (g2 := F0 m 23 ls [.null]) rfl ?_
      refine lv_astoreN (lv' := [(7, .null), (6, .ref a_6), (5, .null), (0, .ref h0), (1, .int p0), (2, .int p1), (3, .int p2), (4, .int p3)]) hx hb dX8_open_23 hl (by decide) rfl (fun ls hl => ?_)
      refine lv_aload_n hx hb dX8_open_25 rfl (lv_at hl 3 rfl) ?_
      refine lv_iload_n hx hb dX8_open_26 rfl (lv_at hl 5 rfl) ?_
      refine lv_iload_n hx hb dX8_open_27 rfl (lv_at hl 6 rfl) ?_
      have hFc := va_free (wc := [(h0, .inr (10, [.ref t0, .ref r0, .ref m0, .ref x0, v4, v5, v6, v7, v8, .int 0, .int (-1), .int 0])), (m0, .inl (cM, 8, .inr (.inr (.inr (.inr (fun _ => none))))))]) hD hS hA [0, 2] rfl
      refine va_callq (va_runV (As := [.int p1, .int p2]) (rest := []) ⟨hx, hb, hml, hown, hts⟩ (c_X8_fieldOf l dC dI h0 t0 r0 m0 x0 (v4) (v5) (v6) (v7) (v8) cM p1 p2 H.size) (cwV 2 hts gp_X8_open_X8_fieldOf_100 rfl rfl rfl (by decide +kernel) ⟨Nat.le_of_ble_eq_true rfl, Nat.le_of_ble_eq_true rfl⟩) ⟨Pr.blind _, va_recv hK hP (ci := 10) (q0 := 0) rfl rfl, fun U hU hW => ⟨rfl, Pr.at (hP.sub (ws' := [(h0, .inr (10, [.ref t0, .ref r0, .ref m0, .ref x0, v4, v5, v6, v7, v8, .int 0, .int (-1), .int 0])), (m0, .inl (cM, 8, .inr (.inr (.inr (.inr (fun _ => none))))))]) [0, 2] rfl) (hK.sub (tys' := [(cM, .object RX1)]) [0] rfl) (hD.sub (ws' := [(h0, .inr (10, [.ref t0, .ref r0, .ref m0, .ref x0, v4, v5, v6, v7, v8, .int 0, .int (-1), .int 0])), (m0, .inl (cM, 8, .inr (.inr (.inr (.inr (fun _ => none))))))]) [0, 2] (by decide) rfl) hN hZ hS hFc hU hW⟩⟩ rfl rfl hl.1 rfl (lv_room (Nat.le_of_ble_eq_true rfl)) dX8_open_28 ⟨Nat.le_of_ble_eq_true rfl, Nat.le_of_ble_eq_true rfl⟩) hS (fun q _ h => hFc q h) hFc (fun r_16 u t H1 locs ht hvm hw_17 hB hz1 hk1 hS => ?_)
      obtain ⟨hP, hD, hK⟩ := Bq.join (wr := [(r0, .inl (cR, 4, .inr (.inr (.inr (.inr fR)))))]) hB ht hvm hP hD [0, 2] [1] rfl rfl (by decide) (by decide) hk1 hFc hK
      generalize H1 = H at hP hS ⊢
      have hP : va_P (dC, dI) vwCl [(r0, .inl (cR, 4, .inr (.inr (.inr (.inr fR))))), (h0, .inr (10, [.ref t0, .ref r0, .ref m0, .ref x0, v4, v5, v6, v7, v8, .int 0, .int (-1), .int 0])), (m0, .inl (cM, 8, .inr (.inr (.inr (.inr (fun _ => none))))))] H := hP
      have hD : va_D A [(r0, .inl (cR, 4, .inr (.inr (.inr (.inr fR))))), (h0, .inr (10, [.ref t0, .ref r0, .ref m0, .ref x0, v4, v5, v6, v7, v8, .int 0, .int (-1), .int 0])), (m0, .inl (cM, 8, .inr (.inr (.inr (.inr (fun _ => none))))))] := hD
      have hK : va_K (dC, dI) vwCl [(cM, .object RX1), (cR, .object RX5)] s := hK
      try dsimp only at hw_17
      have k_18 := hw_17
      subst k_18
      refine W.eq (g2 := F0 m 31 ls [.null]) rfl ?_
      refine lv_astoreN (lv' := [(8, .null), (7, .null), (6, .ref a_6), (5, .null), (0, .ref h0), (1, .int p0), (2, .int p1), (3, .int p2), (4, .int p3)]) hx hb dX8_open_31 hl (by decide) rfl (fun ls hl => ?_)
      refine lv_aloadN hx hb dX8_open_33 (lv_at hl 3 rfl) ?_
      refine lv_ifnullN (tgt := 63) hx hb dX8_open_35 (by decide) ?_
      refine lv_iconst (v := (-1)) hx hb dX8_open_63 (by decide) ?_
      have hP9 := hP.sub (ws' := []) [] rfl
      have hD9 := hD.sub (ws' := []) [] (by decide) rfl
      have hK9 := hK.sub (tys' := []) [] rfl
      exact W.iret (v := (-1)) hx hb hr (fun t ht hW => ⟨⟨(-1), (), rfl, rfl, by rw [ht]; exact hP9, va_K.moved hW.alike hK9, hD9⟩, hS.F ht⟩) hS.2.2 dX8_open_64
  · refine W.eq (g2 := F0 m 5 ls [.ref a_3]) rfl ?_
    refine lv_astore (lv' := [(5, .ref a_3), (0, .ref h0), (1, .int p0), (2, .int p1), (3, .int p2), (4, .int p3)]) hx hb dX8_open_5 hl (by decide) rfl (fun ls hl => ?_)
    refine lv_aload_n hx hb dX8_open_7 rfl (lv_at hl 1 rfl) ?_
    refine lv_iload hx hb dX8_open_8 (lv_at hl 5 rfl) ?_
    have hFc := va_free (wc := [(h0, .inr (10, [.ref t0, .ref r0, .ref m0, .ref x0, v4, v5, v6, v7, v8, .int 0, .int (-1), .int 0])), (r0, .inl (cR, 4, .inr (.inr (.inr (.inr fR)))))]) hD hS hA [1, 2] rfl
    refine va_callq (va_runV (As := [.int p3]) (rest := []) ⟨hx, hb, hml, hown, hts⟩ (c_X8_recordAny l dC dI h0 t0 r0 m0 x0 (v4) (v5) (v6) (v7) (v8) cR fR p3 H.size) (cwV 1 hts gp_X8_open_X8_recordAny_128 rfl rfl rfl (by decide +kernel) ⟨Nat.le_of_ble_eq_true rfl, Nat.le_of_ble_eq_true rfl⟩) ⟨Pr.blind _, va_recv hK hP (ci := 10) (q0 := 1) rfl rfl, fun U hU hW => ⟨rfl, Pr.at (hP.sub (ws' := [(h0, .inr (10, [.ref t0, .ref r0, .ref m0, .ref x0, v4, v5, v6, v7, v8, .int 0, .int (-1), .int 0])), (r0, .inl (cR, 4, .inr (.inr (.inr (.inr fR)))))]) [1, 2] rfl) (hK.sub (tys' := [(cR, .object RX5)]) [1] rfl) (hD.sub (ws' := [(h0, .inr (10, [.ref t0, .ref r0, .ref m0, .ref x0, v4, v5, v6, v7, v8, .int 0, .int (-1), .int 0])), (r0, .inl (cR, 4, .inr (.inr (.inr (.inr fR)))))]) [1, 2] (by decide) rfl) hN hZ hS hFc hU hW⟩⟩ rfl rfl hl.1 rfl (lv_room (Nat.le_of_ble_eq_true rfl)) dX8_open_10 ⟨Nat.le_of_ble_eq_true rfl, Nat.le_of_ble_eq_true rfl⟩) hS (fun q _ h => hFc q h) hFc (fun r_19 u t H1 locs ht hvm hw_20 hB hz1 hk1 hS => ?_)
    obtain ⟨hP, hD, hK⟩ := Bq.join (wr := [(m0, .inl (cM, 8, .inr (.inr (.inr (.inr (fun _ => none))))))]) hB ht hvm hP hD [1, 2] [0] rfl rfl (by decide) (by decide) hk1 hFc hK
    generalize H1 = H at hP hS ⊢
    have hP : va_P (dC, dI) vwCl [(m0, .inl (cM, 8, .inr (.inr (.inr (.inr (fun _ => none)))))), (h0, .inr (10, [.ref t0, .ref r0, .ref m0, .ref x0, v4, v5, v6, v7, v8, .int 0, .int (-1), .int 0])), (r0, .inl (cR, 4, .inr (.inr (.inr (.inr fR)))))] H := hP
    have hD : va_D A [(m0, .inl (cM, 8, .inr (.inr (.inr (.inr (fun _ => none)))))), (h0, .inr (10, [.ref t0, .ref r0, .ref m0, .ref x0, v4, v5, v6, v7, v8, .int 0, .int (-1), .int 0])), (r0, .inl (cR, 4, .inr (.inr (.inr (.inr fR)))))] := hD
    have hK : va_K (dC, dI) vwCl [(cM, .object RX1), (cR, .object RX5)] s := hK
    try dsimp only at hw_20
    rcases r_19 with _ | a_21
    · refine W.eq (g2 := F0 m 13 ls [.null]) rfl ?_
      refine lv_astoreN (lv' := [(6, .null), (5, .ref a_3), (0, .ref h0), (1, .int p0), (2, .int p1), (3, .int p2), (4, .int p3)]) hx hb dX8_open_13 hl (by decide) rfl (fun ls hl => ?_)
      refine lv_aload_n hx hb dX8_open_15 rfl (lv_at hl 2 rfl) ?_
      refine va_get (D := (dC, dI)) (ci := 10) (v := .ref m0) (C := RX8) (T := TX8) (N := 12) hx hb hts iRX8 hown hK hP 1 rfl rfl 2 (by decide) (hts (.fieldLink RX8 24 "RecordBench" "makes" "[LRecordBench$Make;") (by decide +kernel)) (fun _ h9 => h9) rfl dX8_open_16 ?_
      refine lv_iload_n hx hb dX8_open_19 rfl (lv_at hl 4 rfl) ?_
      have hFc := va_free (wc := [(m0, .inl (cM, 8, .inr (.inr (.inr (.inr (fun _ => none))))))]) hD hS hA [0] rfl
      refine va_callq (va_runS (As := [.ref m0, .int p1]) (rest := []) ⟨hx, hb, hml, hown, hts⟩ (c_X8_makeOf l dC dI m0 p1 cM H.size) (cwS 2 hts gp_X8_open_X8_makeOf_136 rfl rfl rfl (by decide +kernel) ⟨Nat.le_of_ble_eq_true rfl, Nat.le_of_ble_eq_true rfl⟩) ⟨Pr.blind _, fun U hU hW => ⟨rfl, Pr.at (hP.sub (ws' := [(m0, .inl (cM, 8, .inr (.inr (.inr (.inr (fun _ => none))))))]) [0] rfl) (hK.sub (tys' := [(cM, .object RX1)]) [0] rfl) (hD.sub (ws' := [(m0, .inl (cM, 8, .inr (.inr (.inr (.inr (fun _ => none))))))]) [0] (by decide) rfl) hN hZ hS hFc hU hW⟩⟩ rfl rfl hl.1 rfl (lv_room (Nat.le_of_ble_eq_true rfl)) dX8_open_20 ⟨Nat.le_of_ble_eq_true rfl, Nat.le_of_ble_eq_true rfl⟩) hS (fun q _ h => hFc q h) hFc (fun r_22 u t H1 locs ht hvm hw_23 hB hz1 hk1 hS => ?_)
      obtain ⟨hP, hD, hK⟩ := Bq.join (wr := [(h0, .inr (10, [.ref t0, .ref r0, .ref m0, .ref x0, v4, v5, v6, v7, v8, .int 0, .int (-1), .int 0])), (r0, .inl (cR, 4, .inr (.inr (.inr (.inr fR)))))]) hB ht hvm hP hD [0] [1, 2] rfl rfl (by decide) (by decide) hk1 hFc hK
      generalize H1 = H at hP hS ⊢
      have hP : va_P (dC, dI) vwCl [(h0, .inr (10, [.ref t0, .ref r0, .ref m0, .ref x0, v4, v5, v6, v7, v8, .int 0, .int (-1), .int 0])), (r0, .inl (cR, 4, .inr (.inr (.inr (.inr fR))))), (m0, .inl (cM, 8, .inr (.inr (.inr (.inr (fun _ => none))))))] H := hP
      have hD : va_D A [(h0, .inr (10, [.ref t0, .ref r0, .ref m0, .ref x0, v4, v5, v6, v7, v8, .int 0, .int (-1), .int 0])), (r0, .inl (cR, 4, .inr (.inr (.inr (.inr fR))))), (m0, .inl (cM, 8, .inr (.inr (.inr (.inr (fun _ => none))))))] := hD
      have hK : va_K (dC, dI) vwCl [(cM, .object RX1), (cR, .object RX5)] s := hK
      try dsimp only at hw_23
      have k_24 := hw_23
      subst k_24
      refine W.eq (g2 := F0 m 23 ls [.null]) rfl ?_
      refine lv_astoreN (lv' := [(7, .null), (6, .null), (5, .ref a_3), (0, .ref h0), (1, .int p0), (2, .int p1), (3, .int p2), (4, .int p3)]) hx hb dX8_open_23 hl (by decide) rfl (fun ls hl => ?_)
      refine lv_aload_n hx hb dX8_open_25 rfl (lv_at hl 3 rfl) ?_
      refine lv_iload_n hx hb dX8_open_26 rfl (lv_at hl 5 rfl) ?_
      refine lv_iload_n hx hb dX8_open_27 rfl (lv_at hl 6 rfl) ?_
      have hFc := va_free (wc := [(h0, .inr (10, [.ref t0, .ref r0, .ref m0, .ref x0, v4, v5, v6, v7, v8, .int 0, .int (-1), .int 0])), (m0, .inl (cM, 8, .inr (.inr (.inr (.inr (fun _ => none))))))]) hD hS hA [0, 2] rfl
      refine va_callq (va_runV (As := [.int p1, .int p2]) (rest := []) ⟨hx, hb, hml, hown, hts⟩ (c_X8_fieldOf l dC dI h0 t0 r0 m0 x0 (v4) (v5) (v6) (v7) (v8) cM p1 p2 H.size) (cwV 2 hts gp_X8_open_X8_fieldOf_100 rfl rfl rfl (by decide +kernel) ⟨Nat.le_of_ble_eq_true rfl, Nat.le_of_ble_eq_true rfl⟩) ⟨Pr.blind _, va_recv hK hP (ci := 10) (q0 := 0) rfl rfl, fun U hU hW => ⟨rfl, Pr.at (hP.sub (ws' := [(h0, .inr (10, [.ref t0, .ref r0, .ref m0, .ref x0, v4, v5, v6, v7, v8, .int 0, .int (-1), .int 0])), (m0, .inl (cM, 8, .inr (.inr (.inr (.inr (fun _ => none))))))]) [0, 2] rfl) (hK.sub (tys' := [(cM, .object RX1)]) [0] rfl) (hD.sub (ws' := [(h0, .inr (10, [.ref t0, .ref r0, .ref m0, .ref x0, v4, v5, v6, v7, v8, .int 0, .int (-1), .int 0])), (m0, .inl (cM, 8, .inr (.inr (.inr (.inr (fun _ => none))))))]) [0, 2] (by decide) rfl) hN hZ hS hFc hU hW⟩⟩ rfl rfl hl.1 rfl (lv_room (Nat.le_of_ble_eq_true rfl)) dX8_open_28 ⟨Nat.le_of_ble_eq_true rfl, Nat.le_of_ble_eq_true rfl⟩) hS (fun q _ h => hFc q h) hFc (fun r_25 u t H1 locs ht hvm hw_26 hB hz1 hk1 hS => ?_)
      obtain ⟨hP, hD, hK⟩ := Bq.join (wr := [(r0, .inl (cR, 4, .inr (.inr (.inr (.inr fR)))))]) hB ht hvm hP hD [0, 2] [1] rfl rfl (by decide) (by decide) hk1 hFc hK
      generalize H1 = H at hP hS ⊢
      have hP : va_P (dC, dI) vwCl [(r0, .inl (cR, 4, .inr (.inr (.inr (.inr fR))))), (h0, .inr (10, [.ref t0, .ref r0, .ref m0, .ref x0, v4, v5, v6, v7, v8, .int 0, .int (-1), .int 0])), (m0, .inl (cM, 8, .inr (.inr (.inr (.inr (fun _ => none))))))] H := hP
      have hD : va_D A [(r0, .inl (cR, 4, .inr (.inr (.inr (.inr fR))))), (h0, .inr (10, [.ref t0, .ref r0, .ref m0, .ref x0, v4, v5, v6, v7, v8, .int 0, .int (-1), .int 0])), (m0, .inl (cM, 8, .inr (.inr (.inr (.inr (fun _ => none))))))] := hD
      have hK : va_K (dC, dI) vwCl [(cM, .object RX1), (cR, .object RX5)] s := hK
      try dsimp only at hw_26
      have k_27 := hw_26
      subst k_27
      refine W.eq (g2 := F0 m 31 ls [.null]) rfl ?_
      refine lv_astoreN (lv' := [(8, .null), (7, .null), (6, .null), (5, .ref a_3), (0, .ref h0), (1, .int p0), (2, .int p1), (3, .int p2), (4, .int p3)]) hx hb dX8_open_31 hl (by decide) rfl (fun ls hl => ?_)
      refine lv_aload hx hb dX8_open_33 (lv_at hl 3 rfl) ?_
      refine lv_ifnull hx hb dX8_open_35 ?_
      refine lv_aloadN hx hb dX8_open_38 (lv_at hl 2 rfl) ?_
      refine lv_ifnullN (tgt := 63) hx hb dX8_open_40 (by decide) ?_
      refine lv_iconst (v := (-1)) hx hb dX8_open_63 (by decide) ?_
      have hP9 := hP.sub (ws' := []) [] rfl
      have hD9 := hD.sub (ws' := []) [] (by decide) rfl
      have hK9 := hK.sub (tys' := []) [] rfl
      exact W.iret (v := (-1)) hx hb hr (fun t ht hW => ⟨⟨(-1), (), rfl, rfl, by rw [ht]; exact hP9, va_K.moved hW.alike hK9, hD9⟩, hS.F ht⟩) hS.2.2 dX8_open_64
    · refine W.eq (g2 := F0 m 13 ls [.ref a_21]) rfl ?_
      refine lv_astore (lv' := [(6, .ref a_21), (5, .ref a_3), (0, .ref h0), (1, .int p0), (2, .int p1), (3, .int p2), (4, .int p3)]) hx hb dX8_open_13 hl (by decide) rfl (fun ls hl => ?_)
      refine lv_aload_n hx hb dX8_open_15 rfl (lv_at hl 2 rfl) ?_
      refine va_get (D := (dC, dI)) (ci := 10) (v := .ref m0) (C := RX8) (T := TX8) (N := 12) hx hb hts iRX8 hown hK hP 1 rfl rfl 2 (by decide) (hts (.fieldLink RX8 24 "RecordBench" "makes" "[LRecordBench$Make;") (by decide +kernel)) (fun _ h9 => h9) rfl dX8_open_16 ?_
      refine lv_iload_n hx hb dX8_open_19 rfl (lv_at hl 4 rfl) ?_
      have hFc := va_free (wc := [(m0, .inl (cM, 8, .inr (.inr (.inr (.inr (fun _ => none))))))]) hD hS hA [0] rfl
      refine va_callq (va_runS (As := [.ref m0, .int p1]) (rest := []) ⟨hx, hb, hml, hown, hts⟩ (c_X8_makeOf l dC dI m0 p1 cM H.size) (cwS 2 hts gp_X8_open_X8_makeOf_136 rfl rfl rfl (by decide +kernel) ⟨Nat.le_of_ble_eq_true rfl, Nat.le_of_ble_eq_true rfl⟩) ⟨Pr.blind _, fun U hU hW => ⟨rfl, Pr.at (hP.sub (ws' := [(m0, .inl (cM, 8, .inr (.inr (.inr (.inr (fun _ => none))))))]) [0] rfl) (hK.sub (tys' := [(cM, .object RX1)]) [0] rfl) (hD.sub (ws' := [(m0, .inl (cM, 8, .inr (.inr (.inr (.inr (fun _ => none))))))]) [0] (by decide) rfl) hN hZ hS hFc hU hW⟩⟩ rfl rfl hl.1 rfl (lv_room (Nat.le_of_ble_eq_true rfl)) dX8_open_20 ⟨Nat.le_of_ble_eq_true rfl, Nat.le_of_ble_eq_true rfl⟩) hS (fun q _ h => hFc q h) hFc (fun r_28 u t H1 locs ht hvm hw_29 hB hz1 hk1 hS => ?_)
      obtain ⟨hP, hD, hK⟩ := Bq.join (wr := [(h0, .inr (10, [.ref t0, .ref r0, .ref m0, .ref x0, v4, v5, v6, v7, v8, .int 0, .int (-1), .int 0])), (r0, .inl (cR, 4, .inr (.inr (.inr (.inr fR)))))]) hB ht hvm hP hD [0] [1, 2] rfl rfl (by decide) (by decide) hk1 hFc hK
      generalize H1 = H at hP hS ⊢
      have hP : va_P (dC, dI) vwCl [(h0, .inr (10, [.ref t0, .ref r0, .ref m0, .ref x0, v4, v5, v6, v7, v8, .int 0, .int (-1), .int 0])), (r0, .inl (cR, 4, .inr (.inr (.inr (.inr fR))))), (m0, .inl (cM, 8, .inr (.inr (.inr (.inr (fun _ => none))))))] H := hP
      have hD : va_D A [(h0, .inr (10, [.ref t0, .ref r0, .ref m0, .ref x0, v4, v5, v6, v7, v8, .int 0, .int (-1), .int 0])), (r0, .inl (cR, 4, .inr (.inr (.inr (.inr fR))))), (m0, .inl (cM, 8, .inr (.inr (.inr (.inr (fun _ => none))))))] := hD
      have hK : va_K (dC, dI) vwCl [(cM, .object RX1), (cR, .object RX5)] s := hK
      try dsimp only at hw_29
      have k_30 := hw_29
      subst k_30
      refine W.eq (g2 := F0 m 23 ls [.null]) rfl ?_
      refine lv_astoreN (lv' := [(7, .null), (6, .ref a_21), (5, .ref a_3), (0, .ref h0), (1, .int p0), (2, .int p1), (3, .int p2), (4, .int p3)]) hx hb dX8_open_23 hl (by decide) rfl (fun ls hl => ?_)
      refine lv_aload_n hx hb dX8_open_25 rfl (lv_at hl 3 rfl) ?_
      refine lv_iload_n hx hb dX8_open_26 rfl (lv_at hl 5 rfl) ?_
      refine lv_iload_n hx hb dX8_open_27 rfl (lv_at hl 6 rfl) ?_
      have hFc := va_free (wc := [(h0, .inr (10, [.ref t0, .ref r0, .ref m0, .ref x0, v4, v5, v6, v7, v8, .int 0, .int (-1), .int 0])), (m0, .inl (cM, 8, .inr (.inr (.inr (.inr (fun _ => none))))))]) hD hS hA [0, 2] rfl
      refine va_callq (va_runV (As := [.int p1, .int p2]) (rest := []) ⟨hx, hb, hml, hown, hts⟩ (c_X8_fieldOf l dC dI h0 t0 r0 m0 x0 (v4) (v5) (v6) (v7) (v8) cM p1 p2 H.size) (cwV 2 hts gp_X8_open_X8_fieldOf_100 rfl rfl rfl (by decide +kernel) ⟨Nat.le_of_ble_eq_true rfl, Nat.le_of_ble_eq_true rfl⟩) ⟨Pr.blind _, va_recv hK hP (ci := 10) (q0 := 0) rfl rfl, fun U hU hW => ⟨rfl, Pr.at (hP.sub (ws' := [(h0, .inr (10, [.ref t0, .ref r0, .ref m0, .ref x0, v4, v5, v6, v7, v8, .int 0, .int (-1), .int 0])), (m0, .inl (cM, 8, .inr (.inr (.inr (.inr (fun _ => none))))))]) [0, 2] rfl) (hK.sub (tys' := [(cM, .object RX1)]) [0] rfl) (hD.sub (ws' := [(h0, .inr (10, [.ref t0, .ref r0, .ref m0, .ref x0, v4, v5, v6, v7, v8, .int 0, .int (-1), .int 0])), (m0, .inl (cM, 8, .inr (.inr (.inr (.inr (fun _ => none))))))]) [0, 2] (by decide) rfl) hN hZ hS hFc hU hW⟩⟩ rfl rfl hl.1 rfl (lv_room (Nat.le_of_ble_eq_true rfl)) dX8_open_28 ⟨Nat.le_of_ble_eq_true rfl, Nat.le_of_ble_eq_true rfl⟩) hS (fun q _ h => hFc q h) hFc (fun r_31 u t H1 locs ht hvm hw_32 hB hz1 hk1 hS => ?_)
      obtain ⟨hP, hD, hK⟩ := Bq.join (wr := [(r0, .inl (cR, 4, .inr (.inr (.inr (.inr fR)))))]) hB ht hvm hP hD [0, 2] [1] rfl rfl (by decide) (by decide) hk1 hFc hK
      generalize H1 = H at hP hS ⊢
      have hP : va_P (dC, dI) vwCl [(r0, .inl (cR, 4, .inr (.inr (.inr (.inr fR))))), (h0, .inr (10, [.ref t0, .ref r0, .ref m0, .ref x0, v4, v5, v6, v7, v8, .int 0, .int (-1), .int 0])), (m0, .inl (cM, 8, .inr (.inr (.inr (.inr (fun _ => none))))))] H := hP
      have hD : va_D A [(r0, .inl (cR, 4, .inr (.inr (.inr (.inr fR))))), (h0, .inr (10, [.ref t0, .ref r0, .ref m0, .ref x0, v4, v5, v6, v7, v8, .int 0, .int (-1), .int 0])), (m0, .inl (cM, 8, .inr (.inr (.inr (.inr (fun _ => none))))))] := hD
      have hK : va_K (dC, dI) vwCl [(cM, .object RX1), (cR, .object RX5)] s := hK
      try dsimp only at hw_32
      have k_33 := hw_32
      subst k_33
      refine W.eq (g2 := F0 m 31 ls [.null]) rfl ?_
      refine lv_astoreN (lv' := [(8, .null), (7, .null), (6, .ref a_21), (5, .ref a_3), (0, .ref h0), (1, .int p0), (2, .int p1), (3, .int p2), (4, .int p3)]) hx hb dX8_open_31 hl (by decide) rfl (fun ls hl => ?_)
      refine lv_aload hx hb dX8_open_33 (lv_at hl 3 rfl) ?_
      refine lv_ifnull hx hb dX8_open_35 ?_
      refine lv_aload hx hb dX8_open_38 (lv_at hl 2 rfl) ?_
      refine lv_ifnull hx hb dX8_open_40 ?_
      refine lv_aloadN hx hb dX8_open_43 (lv_at hl 1 rfl) ?_
      refine lv_ifnullN (tgt := 63) hx hb dX8_open_45 (by decide) ?_
      refine lv_iconst (v := (-1)) hx hb dX8_open_63 (by decide) ?_
      have hP9 := hP.sub (ws' := []) [] rfl
      have hD9 := hD.sub (ws' := []) [] (by decide) rfl
      have hK9 := hK.sub (tys' := []) [] rfl
      exact W.iret (v := (-1)) hx hb hr (fun t ht hW => ⟨⟨(-1), (), rfl, rfl, by rw [ht]; exact hP9, va_K.moved hW.alike hK9, hD9⟩, hS.F ht⟩) hS.2.2 dX8_open_64
def wp_X8_lookAlong : List Cond := .code yX8_lookAlong cX8_lookAlong 7 (some .int) :: ([.fieldLink RX8 24 "RecordBench" "makes" "[LRecordBench$Make;", .methodLink RX8 136 yX8_makeOf, .static yX8_makeOf, .initialized RX8, .code yX8_makeOf cX8_makeOf 2 (some (.object "RecordBench$Make"))] ++ wsX80)
set_option maxRecDepth 20000 in
theorem gp_X8_lookAlong_X8_makeOf_136 : GoodIn wp_X8_lookAlong (wsS RX8 136 yX8_makeOf wp_X8_makeOf) := goodIn_p _ [5] rfl (by decide +kernel)
set_option maxHeartbeats 4000000 in
set_option maxRecDepth 100000 in
theorem c_X8_lookAlong (l : Launch) (dC : Nat → ClassId) (dI : Nat → Nat → Nat) (h0 : Nat) (t0 : Nat) (r0 : Nat) (m0 : Nat) (x0 : Nat) (v4 : Value) (v5 : Value) (v6 : Value) (v7 : Value) (v8 : Value) (cM : ClassId) (p0 : Int32) (p1 : Int32) (p2 : Int32) (sz : Nat) : Met l yX8_lookAlong wp_X8_lookAlong ({ frames := 1, cells := 0, slots := 0, locals := 25 }) (va_Pc [.ref h0, .int p0, .int p1, .int p2] (Pr (dC, dI) [(cM, .object RX1)] [(h0, .inr (10, [.ref t0, .ref r0, .ref m0, .ref x0, v4, v5, v6, v7, v8, .int 0, .int ((-1)), .int 0])), (m0, .inl (cM, 8, .inr (.inr (.inr (.inr (fun _ => none))))))] sz)) (va_Qi (fun r : Int32 => (fun _ : Unit => r = -1)) (Bq (dC, dI) (fun _ : Unit => []) (fun _ : Unit => []) (va_A [(h0, .inr (10, [.ref t0, .ref r0, .ref m0, .ref x0, v4, v5, v6, v7, v8, .int 0, .int ((-1)), .int 0])), (m0, .inl (cM, 8, .inr (.inr (.inr (.inr (fun _ => none))))))] sz)) (va_A [(h0, .inr (10, [.ref t0, .ref r0, .ref m0, .ref x0, v4, v5, v6, v7, v8, .int 0, .int ((-1)), .int 0])), (m0, .inl (cM, 8, .inr (.inr (.inr (.inr (fun _ => none))))))] sz)) 0 0 (va_A [(h0, .inr (10, [.ref t0, .ref r0, .ref m0, .ref x0, v4, v5, v6, v7, v8, .int 0, .int ((-1)), .int 0])), (m0, .inl (cM, 8, .inr (.inr (.inr (.inr (fun _ => none))))))] sz) := by
  refine Met.ofW (cc := cX8_lookAlong) (maxL := 7) (ret := (some .int)) (by decide) rfl ?_
  intro p e s m args below meth c s₁ B hml hv
  obtain ⟨rfl, hsz, hP, hK, hD0, hN, hZ⟩ := hv
  have hx := B.exec
  have hb := B.bytes
  have hr := B.returns
  have hts := atoms_spec (ws := wp_X8_lookAlong) B.pre
  have hown : s.vm.findClass RX8 = some m.cls := findClass_of_methodNamed B.named
  have hlocks := B.notSynchronized
  have iRX8 : ∀ w ∈ u_ws RX8 TX8 12, w ∈ wp_X8_lookAlong := by decide +kernel
  subst hsz
  have hD := hD0.self (sz := s.heap.size)
  generalize hAe : va_A [(h0, .inr (10, [.ref t0, .ref r0, .ref m0, .ref x0, v4, v5, v6, v7, v8, .int 0, .int ((-1)), .int 0])), (m0, .inl (cM, 8, .inr (.inr (.inr (.inr (fun _ => none))))))] s.heap.size = A at hD hZ ⊢
  have hA : ∀ q : Nat, s.heap.size ≤ q → A q := fun q h => by rw [← hAe]; exact Or.inr h
  have hS : va_S A s.heap s.heap [] := va_S.rf
  have hP : va_P (dC, dI) vwCl [(h0, .inr (10, [.ref t0, .ref r0, .ref m0, .ref x0, v4, v5, v6, v7, v8, .int 0, .int ((-1)), .int 0])), (m0, .inl (cM, 8, .inr (.inr (.inr (.inr (fun _ => none))))))] s.heap := hP
  have hl := lv_entry ([.ref h0, .int p0, .int p1, .int p2]) (n := 7) (Nat.le_of_ble_eq_true rfl)
  rw [lg_entry_eq]
  generalize (lg_sl ([.ref h0, .int p0, .int p1, .int p2]) ++ List.replicate (7 - (lg_sl ([.ref h0, .int p0, .int p1, .int p2])).length) Slot.unset).toArray = ls at hl ⊢
  have hl : lv_has ls 7 [(0, .ref h0), (1, .int p0), (2, .int p1), (3, .int p2)] := hl
  refine lv_aload_n hx hb dX8_lookAlong_0 rfl (lv_at hl 0 rfl) ?_
  refine va_get (D := (dC, dI)) (ci := 10) (v := .ref m0) (C := RX8) (T := TX8) (N := 12) hx hb hts iRX8 hown hK hP 0 rfl rfl 2 (by decide) (hts (.fieldLink RX8 24 "RecordBench" "makes" "[LRecordBench$Make;") (by decide +kernel)) (fun _ h9 => h9) rfl dX8_lookAlong_1 ?_
  refine lv_iload_n hx hb dX8_lookAlong_4 rfl (lv_at hl 1 rfl) ?_
  have hFc := va_free (wc := [(m0, .inl (cM, 8, .inr (.inr (.inr (.inr (fun _ => none))))))]) hD hS hA [1] rfl
  refine va_callq (va_runS (As := [.ref m0, .int p0]) (rest := []) ⟨hx, hb, hml, hown, hts⟩ (c_X8_makeOf l dC dI m0 p0 cM s.heap.size) (cwS 2 hts gp_X8_lookAlong_X8_makeOf_136 rfl rfl rfl (by decide +kernel) ⟨Nat.le_of_ble_eq_true rfl, Nat.le_of_ble_eq_true rfl⟩) ⟨Pr.blind _, fun U hU hW => ⟨rfl, Pr.at (hP.sub (ws' := [(m0, .inl (cM, 8, .inr (.inr (.inr (.inr (fun _ => none))))))]) [1] rfl) (hK.sub (tys' := [(cM, .object RX1)]) [0] rfl) (hD.sub (ws' := [(m0, .inl (cM, 8, .inr (.inr (.inr (.inr (fun _ => none))))))]) [1] (by decide) rfl) hN hZ hS hFc hU hW⟩⟩ rfl rfl hl.1 rfl (lv_room (Nat.le_of_ble_eq_true rfl)) dX8_lookAlong_5 ⟨Nat.le_of_ble_eq_true rfl, Nat.le_of_ble_eq_true rfl⟩) hS (fun q _ h => hFc q h) hFc (fun r_1 u t H1 locs ht hvm hw_2 hB hz1 hk1 hS => ?_)
  obtain ⟨hP, hD, hK⟩ := Bq.join (wr := [(h0, .inr (10, [.ref t0, .ref r0, .ref m0, .ref x0, v4, v5, v6, v7, v8, .int 0, .int ((-1)), .int 0]))]) hB ht hvm hP hD [1] [0] rfl rfl (by decide) (by decide) hk1 hFc hK
  generalize H1 = H at hP hS ⊢
  have hP : va_P (dC, dI) vwCl [(h0, .inr (10, [.ref t0, .ref r0, .ref m0, .ref x0, v4, v5, v6, v7, v8, .int 0, .int ((-1)), .int 0])), (m0, .inl (cM, 8, .inr (.inr (.inr (.inr (fun _ => none))))))] H := hP
  have hD : va_D A [(h0, .inr (10, [.ref t0, .ref r0, .ref m0, .ref x0, v4, v5, v6, v7, v8, .int 0, .int ((-1)), .int 0])), (m0, .inl (cM, 8, .inr (.inr (.inr (.inr (fun _ => none))))))] := hD
  have hK : va_K (dC, dI) vwCl [(cM, .object RX1)] s := hK
  try dsimp only at hw_2
  have k_3 := hw_2
  subst k_3
  refine W.eq (g2 := F0 m 8 ls [.null]) rfl ?_
  refine lv_astoreN (lv' := [(4, .null), (0, .ref h0), (1, .int p0), (2, .int p1), (3, .int p2)]) hx hb dX8_lookAlong_8 hl (by decide) rfl (fun ls hl => ?_)
  refine lv_aload_n hx hb dX8_lookAlong_10 rfl (lv_at hl 1 rfl) ?_
  refine va_get (D := (dC, dI)) (ci := 10) (v := .ref m0) (C := RX8) (T := TX8) (N := 12) hx hb hts iRX8 hown hK hP 0 rfl rfl 2 (by decide) (hts (.fieldLink RX8 24 "RecordBench" "makes" "[LRecordBench$Make;") (by decide +kernel)) (fun _ h9 => h9) rfl dX8_lookAlong_11 ?_
  refine lv_iload_n hx hb dX8_lookAlong_14 rfl (lv_at hl 3 rfl) ?_
  have hFc := va_free (wc := [(m0, .inl (cM, 8, .inr (.inr (.inr (.inr (fun _ => none))))))]) hD hS hA [1] rfl
  refine va_callq (va_runS (As := [.ref m0, .int p1]) (rest := []) ⟨hx, hb, hml, hown, hts⟩ (c_X8_makeOf l dC dI m0 p1 cM H.size) (cwS 2 hts gp_X8_lookAlong_X8_makeOf_136 rfl rfl rfl (by decide +kernel) ⟨Nat.le_of_ble_eq_true rfl, Nat.le_of_ble_eq_true rfl⟩) ⟨Pr.blind _, fun U hU hW => ⟨rfl, Pr.at (hP.sub (ws' := [(m0, .inl (cM, 8, .inr (.inr (.inr (.inr (fun _ => none))))))]) [1] rfl) (hK.sub (tys' := [(cM, .object RX1)]) [0] rfl) (hD.sub (ws' := [(m0, .inl (cM, 8, .inr (.inr (.inr (.inr (fun _ => none))))))]) [1] (by decide) rfl) hN hZ hS hFc hU hW⟩⟩ rfl rfl hl.1 rfl (lv_room (Nat.le_of_ble_eq_true rfl)) dX8_lookAlong_15 ⟨Nat.le_of_ble_eq_true rfl, Nat.le_of_ble_eq_true rfl⟩) hS (fun q _ h => hFc q h) hFc (fun r_4 u t H1 locs ht hvm hw_5 hB hz1 hk1 hS => ?_)
  obtain ⟨hP, hD, hK⟩ := Bq.join (wr := [(h0, .inr (10, [.ref t0, .ref r0, .ref m0, .ref x0, v4, v5, v6, v7, v8, .int 0, .int ((-1)), .int 0]))]) hB ht hvm hP hD [1] [0] rfl rfl (by decide) (by decide) hk1 hFc hK
  generalize H1 = H at hP hS ⊢
  have hP : va_P (dC, dI) vwCl [(h0, .inr (10, [.ref t0, .ref r0, .ref m0, .ref x0, v4, v5, v6, v7, v8, .int 0, .int ((-1)), .int 0])), (m0, .inl (cM, 8, .inr (.inr (.inr (.inr (fun _ => none))))))] H := hP
  have hD : va_D A [(h0, .inr (10, [.ref t0, .ref r0, .ref m0, .ref x0, v4, v5, v6, v7, v8, .int 0, .int ((-1)), .int 0])), (m0, .inl (cM, 8, .inr (.inr (.inr (.inr (fun _ => none))))))] := hD
  have hK : va_K (dC, dI) vwCl [(cM, .object RX1)] s := hK
  try dsimp only at hw_5
  have k_6 := hw_5
  subst k_6
  refine W.eq (g2 := F0 m 18 ls [.null]) rfl ?_
  refine lv_astoreN (lv' := [(5, .null), (4, .null), (0, .ref h0), (1, .int p0), (2, .int p1), (3, .int p2)]) hx hb dX8_lookAlong_18 hl (by decide) rfl (fun ls hl => ?_)
  refine lv_aload_n hx hb dX8_lookAlong_20 rfl (lv_at hl 2 rfl) ?_
  refine va_get (D := (dC, dI)) (ci := 10) (v := .ref m0) (C := RX8) (T := TX8) (N := 12) hx hb hts iRX8 hown hK hP 0 rfl rfl 2 (by decide) (hts (.fieldLink RX8 24 "RecordBench" "makes" "[LRecordBench$Make;") (by decide +kernel)) (fun _ h9 => h9) rfl dX8_lookAlong_21 ?_
  refine lv_iload_n hx hb dX8_lookAlong_24 rfl (lv_at hl 5 rfl) ?_
  have hFc := va_free (wc := [(m0, .inl (cM, 8, .inr (.inr (.inr (.inr (fun _ => none))))))]) hD hS hA [1] rfl
  refine va_callq (va_runS (As := [.ref m0, .int p2]) (rest := []) ⟨hx, hb, hml, hown, hts⟩ (c_X8_makeOf l dC dI m0 p2 cM H.size) (cwS 2 hts gp_X8_lookAlong_X8_makeOf_136 rfl rfl rfl (by decide +kernel) ⟨Nat.le_of_ble_eq_true rfl, Nat.le_of_ble_eq_true rfl⟩) ⟨Pr.blind _, fun U hU hW => ⟨rfl, Pr.at (hP.sub (ws' := [(m0, .inl (cM, 8, .inr (.inr (.inr (.inr (fun _ => none))))))]) [1] rfl) (hK.sub (tys' := [(cM, .object RX1)]) [0] rfl) (hD.sub (ws' := [(m0, .inl (cM, 8, .inr (.inr (.inr (.inr (fun _ => none))))))]) [1] (by decide) rfl) hN hZ hS hFc hU hW⟩⟩ rfl rfl hl.1 rfl (lv_room (Nat.le_of_ble_eq_true rfl)) dX8_lookAlong_25 ⟨Nat.le_of_ble_eq_true rfl, Nat.le_of_ble_eq_true rfl⟩) hS (fun q _ h => hFc q h) hFc (fun r_7 u t H1 locs ht hvm hw_8 hB hz1 hk1 hS => ?_)
  obtain ⟨hP, hD, hK⟩ := Bq.join (wr := [(h0, .inr (10, [.ref t0, .ref r0, .ref m0, .ref x0, v4, v5, v6, v7, v8, .int 0, .int ((-1)), .int 0]))]) hB ht hvm hP hD [1] [0] rfl rfl (by decide) (by decide) hk1 hFc hK
  generalize H1 = H at hP hS ⊢
  have hP : va_P (dC, dI) vwCl [(h0, .inr (10, [.ref t0, .ref r0, .ref m0, .ref x0, v4, v5, v6, v7, v8, .int 0, .int ((-1)), .int 0])), (m0, .inl (cM, 8, .inr (.inr (.inr (.inr (fun _ => none))))))] H := hP
  have hD : va_D A [(h0, .inr (10, [.ref t0, .ref r0, .ref m0, .ref x0, v4, v5, v6, v7, v8, .int 0, .int ((-1)), .int 0])), (m0, .inl (cM, 8, .inr (.inr (.inr (.inr (fun _ => none))))))] := hD
  have hK : va_K (dC, dI) vwCl [(cM, .object RX1)] s := hK
  try dsimp only at hw_8
  have k_9 := hw_8
  subst k_9
  refine W.eq (g2 := F0 m 28 ls [.null]) rfl ?_
  refine lv_astoreN (lv' := [(6, .null), (5, .null), (4, .null), (0, .ref h0), (1, .int p0), (2, .int p1), (3, .int p2)]) hx hb dX8_lookAlong_28 hl (by decide) rfl (fun ls hl => ?_)
  refine lv_aloadN hx hb dX8_lookAlong_30 (lv_at hl 2 rfl) ?_
  refine lv_ifnullN (tgt := 45) hx hb dX8_lookAlong_32 (by decide) ?_
  refine lv_iconst (v := (-1)) hx hb dX8_lookAlong_45 (by decide) ?_
  have hP9 := hP.sub (ws' := []) [] rfl
  have hD9 := hD.sub (ws' := []) [] (by decide) rfl
  have hK9 := hK.sub (tys' := []) [] rfl
  exact W.iret (v := (-1)) hx hb hr (fun t ht hW => ⟨⟨(-1), (), rfl, rfl, by rw [ht]; exact hP9, va_K.moved hW.alike hK9, hD9⟩, hS.F ht⟩) hS.2.2 dX8_lookAlong_46
def wp_X8_step : List Cond := .code yX8_step cX8_step 3 (some .int) :: ([.methodLink RX8 205 yX8_lookAlong, .instanceMethod yX8_lookAlong, .selects RX8 yX8_lookAlong yX8_lookAlong, .initialized RX8, .code yX8_lookAlong cX8_lookAlong 7 (some .int), .fieldLink RX8 24 "RecordBench" "makes" "[LRecordBench$Make;", .methodLink RX8 136 yX8_makeOf, .static yX8_makeOf, .code yX8_makeOf cX8_makeOf 2 (some (.object "RecordBench$Make"))] ++ wsX80)
set_option maxRecDepth 20000 in
theorem gp_X8_step_X8_lookAlong_205 : GoodIn wp_X8_step (wsV RX8 205 RX8 yX8_lookAlong wp_X8_lookAlong) := goodIn_p _ [5, 9] rfl (by decide +kernel)
set_option maxHeartbeats 4000000 in
set_option maxRecDepth 100000 in
theorem c_X8_step (l : Launch) (dC : Nat → ClassId) (dI : Nat → Nat → Nat) (h0 : Nat) (t0 : Nat) (r0 : Nat) (m0 : Nat) (x0 : Nat) (v4 : Value) (v5 : Value) (v6 : Value) (v7 : Value) (v8 : Value) (cM : ClassId) (p0 : Int32) (p1 : Int32) (sz : Nat) : Met l yX8_step wp_X8_step ({ frames := 2, cells := 0, slots := 0, locals := 55 }) (va_Pc [.ref h0, .int p0, .int p1] (Pr (dC, dI) [(cM, .object RX1)] [(h0, .inr (10, [.ref t0, .ref r0, .ref m0, .ref x0, v4, v5, v6, v7, v8, .int 0, .int ((-1)), .int 0])), (m0, .inl (cM, 8, .inr (.inr (.inr (.inr (fun _ => none))))))] sz)) (va_Qi (fun r : Int32 => (fun _ : Unit => r = -1)) (Bq (dC, dI) (fun _ : Unit => []) (fun _ : Unit => []) (va_A [(h0, .inr (10, [.ref t0, .ref r0, .ref m0, .ref x0, v4, v5, v6, v7, v8, .int 0, .int ((-1)), .int 0])), (m0, .inl (cM, 8, .inr (.inr (.inr (.inr (fun _ => none))))))] sz)) (va_A [(h0, .inr (10, [.ref t0, .ref r0, .ref m0, .ref x0, v4, v5, v6, v7, v8, .int 0, .int ((-1)), .int 0])), (m0, .inl (cM, 8, .inr (.inr (.inr (.inr (fun _ => none))))))] sz)) 0 0 (va_A [(h0, .inr (10, [.ref t0, .ref r0, .ref m0, .ref x0, v4, v5, v6, v7, v8, .int 0, .int ((-1)), .int 0])), (m0, .inl (cM, 8, .inr (.inr (.inr (.inr (fun _ => none))))))] sz) := by
  refine Met.ofW (cc := cX8_step) (maxL := 3) (ret := (some .int)) (by decide) rfl ?_
  intro p e s m args below meth c s₁ B hml hv
  obtain ⟨rfl, hsz, hP, hK, hD0, hN, hZ⟩ := hv
  have hx := B.exec
  have hb := B.bytes
  have hr := B.returns
  have hts := atoms_spec (ws := wp_X8_step) B.pre
  have hown : s.vm.findClass RX8 = some m.cls := findClass_of_methodNamed B.named
  have hlocks := B.notSynchronized
  subst hsz
  have hD := hD0.self (sz := s.heap.size)
  generalize hAe : va_A [(h0, .inr (10, [.ref t0, .ref r0, .ref m0, .ref x0, v4, v5, v6, v7, v8, .int 0, .int ((-1)), .int 0])), (m0, .inl (cM, 8, .inr (.inr (.inr (.inr (fun _ => none))))))] s.heap.size = A at hD hZ ⊢
  have hA : ∀ q : Nat, s.heap.size ≤ q → A q := fun q h => by rw [← hAe]; exact Or.inr h
  have hS : va_S A s.heap s.heap [] := va_S.rf
  have hP : va_P (dC, dI) vwCl [(h0, .inr (10, [.ref t0, .ref r0, .ref m0, .ref x0, v4, v5, v6, v7, v8, .int 0, .int ((-1)), .int 0])), (m0, .inl (cM, 8, .inr (.inr (.inr (.inr (fun _ => none))))))] s.heap := hP
  have hl := lv_entry ([.ref h0, .int p0, .int p1]) (n := 3) (Nat.le_of_ble_eq_true rfl)
  rw [lg_entry_eq]
  generalize (lg_sl ([.ref h0, .int p0, .int p1]) ++ List.replicate (3 - (lg_sl ([.ref h0, .int p0, .int p1])).length) Slot.unset).toArray = ls at hl ⊢
  have hl : lv_has ls 3 [(0, .ref h0), (1, .int p0), (2, .int p1)] := hl
  refine lv_aload_n hx hb dX8_step_0 rfl (lv_at hl 0 rfl) ?_
  refine lv_iload_n hx hb dX8_step_1 rfl (lv_at hl 1 rfl) ?_
  refine lv_iload_n hx hb dX8_step_2 rfl (lv_at hl 2 rfl) ?_
  refine lv_iload_n hx hb dX8_step_3 rfl (lv_at hl 2 rfl) ?_
  have hFc := va_free (wc := [(h0, .inr (10, [.ref t0, .ref r0, .ref m0, .ref x0, v4, v5, v6, v7, v8, .int 0, .int ((-1)), .int 0])), (m0, .inl (cM, 8, .inr (.inr (.inr (.inr (fun _ => none))))))]) hD hS hA [0, 1] rfl
  refine va_calli (va_runV (As := [.int p0, .int p1, .int p1]) (rest := []) ⟨hx, hb, hml, hown, hts⟩ (c_X8_lookAlong l dC dI h0 t0 r0 m0 x0 (v4) (v5) (v6) (v7) (v8) cM p0 p1 p1 s.heap.size) (cwV 3 hts gp_X8_step_X8_lookAlong_205 rfl rfl rfl (by decide +kernel) ⟨Nat.le_of_ble_eq_true rfl, Nat.le_of_ble_eq_true rfl⟩) ⟨Pr.blind _, va_recv hK hP (ci := 10) (q0 := 0) rfl rfl, fun U hU hW => ⟨rfl, Pr.at (hP.sub (ws' := [(h0, .inr (10, [.ref t0, .ref r0, .ref m0, .ref x0, v4, v5, v6, v7, v8, .int 0, .int ((-1)), .int 0])), (m0, .inl (cM, 8, .inr (.inr (.inr (.inr (fun _ => none))))))]) [0, 1] rfl) (hK.sub (tys' := [(cM, .object RX1)]) [0] rfl) (hD.sub (ws' := [(h0, .inr (10, [.ref t0, .ref r0, .ref m0, .ref x0, v4, v5, v6, v7, v8, .int 0, .int ((-1)), .int 0])), (m0, .inl (cM, 8, .inr (.inr (.inr (.inr (fun _ => none))))))]) [0, 1] (by decide) rfl) hN hZ hS hFc hU hW⟩⟩ rfl rfl hl.1 rfl (lv_room (Nat.le_of_ble_eq_true rfl)) dX8_step_4 ⟨Nat.le_of_ble_eq_true rfl, Nat.le_of_ble_eq_true rfl⟩) hS (fun q _ h => hFc q h) hFc (fun r_1 u t H1 locs ht hvm hw_2 hB hz1 hk1 hS => ?_)
  obtain ⟨hP, hD, hK⟩ := Bq.join (wr := []) hB ht hvm hP hD [0, 1] [] rfl rfl (by decide) (by decide) hk1 hFc hK
  generalize H1 = H at hP hS ⊢
  have hP : va_P (dC, dI) vwCl [] H := hP
  have hD : va_D A [] := hD
  have hK : va_K (dC, dI) vwCl [(cM, .object RX1)] s := hK
  try dsimp only at hw_2
  have k_3 := hw_2
  refine W_toi (y := -1) k_3 ?_
  have hP9 := hP.sub (ws' := []) [] rfl
  have hD9 := hD.sub (ws' := []) [] (by decide) rfl
  have hK9 := hK.sub (tys' := []) [] rfl
  exact W.iret (v := -1) hx hb hr (fun t ht hW => ⟨⟨-1, (), rfl, rfl, by rw [ht]; exact hP9, va_K.moved hW.alike hK9, hD9⟩, hS.F ht⟩) hS.2.2 dX8_step_7
def wp_X8_walk : List Cond := .code yX8_walk cX8_walk 4 (some .int) :: ([.methodLink RX8 205 yX8_lookAlong, .instanceMethod yX8_lookAlong, .selects RX8 yX8_lookAlong yX8_lookAlong, .initialized RX8, .code yX8_lookAlong cX8_lookAlong 7 (some .int), .fieldLink RX8 24 "RecordBench" "makes" "[LRecordBench$Make;", .methodLink RX8 136 yX8_makeOf, .static yX8_makeOf, .code yX8_makeOf cX8_makeOf 2 (some (.object "RecordBench$Make"))] ++ wsX80)
set_option maxRecDepth 20000 in
theorem gp_X8_walk_X8_lookAlong_205 : GoodIn wp_X8_walk (wsV RX8 205 RX8 yX8_lookAlong wp_X8_lookAlong) := goodIn_p _ [5, 9] rfl (by decide +kernel)
set_option maxHeartbeats 4000000 in
set_option maxRecDepth 100000 in
theorem c_X8_walk (l : Launch) (dC : Nat → ClassId) (dI : Nat → Nat → Nat) (h0 : Nat) (t0 : Nat) (r0 : Nat) (m0 : Nat) (x0 : Nat) (v4 : Value) (v5 : Value) (v6 : Value) (v7 : Value) (v8 : Value) (cM : ClassId) (p0 : Int32) (p1 : Int32) (p2 : Int32) (sz : Nat) : Met l yX8_walk wp_X8_walk ({ frames := 2, cells := 0, slots := 0, locals := 55 }) (va_Pc [.ref h0, .int p0, .int p1, .int p2] (Pr (dC, dI) [(cM, .object RX1)] [(h0, .inr (10, [.ref t0, .ref r0, .ref m0, .ref x0, v4, v5, v6, v7, v8, .int 0, .int ((-1)), .int 0])), (m0, .inl (cM, 8, .inr (.inr (.inr (.inr (fun _ => none))))))] sz)) (va_Qi (fun r : Int32 => (fun _ : Unit => r = -1)) (Bq (dC, dI) (fun _ : Unit => []) (fun _ : Unit => []) (va_A [(h0, .inr (10, [.ref t0, .ref r0, .ref m0, .ref x0, v4, v5, v6, v7, v8, .int 0, .int ((-1)), .int 0])), (m0, .inl (cM, 8, .inr (.inr (.inr (.inr (fun _ => none))))))] sz)) (va_A [(h0, .inr (10, [.ref t0, .ref r0, .ref m0, .ref x0, v4, v5, v6, v7, v8, .int 0, .int ((-1)), .int 0])), (m0, .inl (cM, 8, .inr (.inr (.inr (.inr (fun _ => none))))))] sz)) 0 0 (va_A [(h0, .inr (10, [.ref t0, .ref r0, .ref m0, .ref x0, v4, v5, v6, v7, v8, .int 0, .int ((-1)), .int 0])), (m0, .inl (cM, 8, .inr (.inr (.inr (.inr (fun _ => none))))))] sz) := by
  refine Met.ofW (cc := cX8_walk) (maxL := 4) (ret := (some .int)) (by decide) rfl ?_
  intro p e s m args below meth c s₁ B hml hv
  obtain ⟨rfl, hsz, hP, hK, hD0, hN, hZ⟩ := hv
  have hx := B.exec
  have hb := B.bytes
  have hr := B.returns
  have hts := atoms_spec (ws := wp_X8_walk) B.pre
  have hown : s.vm.findClass RX8 = some m.cls := findClass_of_methodNamed B.named
  have hlocks := B.notSynchronized
  subst hsz
  have hD := hD0.self (sz := s.heap.size)
  generalize hAe : va_A [(h0, .inr (10, [.ref t0, .ref r0, .ref m0, .ref x0, v4, v5, v6, v7, v8, .int 0, .int ((-1)), .int 0])), (m0, .inl (cM, 8, .inr (.inr (.inr (.inr (fun _ => none))))))] s.heap.size = A at hD hZ ⊢
  have hA : ∀ q : Nat, s.heap.size ≤ q → A q := fun q h => by rw [← hAe]; exact Or.inr h
  have hS : va_S A s.heap s.heap [] := va_S.rf
  have hP : va_P (dC, dI) vwCl [(h0, .inr (10, [.ref t0, .ref r0, .ref m0, .ref x0, v4, v5, v6, v7, v8, .int 0, .int ((-1)), .int 0])), (m0, .inl (cM, 8, .inr (.inr (.inr (.inr (fun _ => none))))))] s.heap := hP
  have hl := lv_entry ([.ref h0, .int p0, .int p1, .int p2]) (n := 4) (Nat.le_of_ble_eq_true rfl)
  rw [lg_entry_eq]
  generalize (lg_sl ([.ref h0, .int p0, .int p1, .int p2]) ++ List.replicate (4 - (lg_sl ([.ref h0, .int p0, .int p1, .int p2])).length) Slot.unset).toArray = ls at hl ⊢
  have hl : lv_has ls 4 [(0, .ref h0), (1, .int p0), (2, .int p1), (3, .int p2)] := hl
  refine lv_aload_n hx hb dX8_walk_0 rfl (lv_at hl 0 rfl) ?_
  refine lv_iload_n hx hb dX8_walk_1 rfl (lv_at hl 1 rfl) ?_
  refine lv_iload_n hx hb dX8_walk_2 rfl (lv_at hl 2 rfl) ?_
  refine lv_iload_n hx hb dX8_walk_3 rfl (lv_at hl 3 rfl) ?_
  have hFc := va_free (wc := [(h0, .inr (10, [.ref t0, .ref r0, .ref m0, .ref x0, v4, v5, v6, v7, v8, .int 0, .int ((-1)), .int 0])), (m0, .inl (cM, 8, .inr (.inr (.inr (.inr (fun _ => none))))))]) hD hS hA [0, 1] rfl
  refine va_calli (va_runV (As := [.int p0, .int p1, .int p2]) (rest := []) ⟨hx, hb, hml, hown, hts⟩ (c_X8_lookAlong l dC dI h0 t0 r0 m0 x0 (v4) (v5) (v6) (v7) (v8) cM p0 p1 p2 s.heap.size) (cwV 3 hts gp_X8_walk_X8_lookAlong_205 rfl rfl rfl (by decide +kernel) ⟨Nat.le_of_ble_eq_true rfl, Nat.le_of_ble_eq_true rfl⟩) ⟨Pr.blind _, va_recv hK hP (ci := 10) (q0 := 0) rfl rfl, fun U hU hW => ⟨rfl, Pr.at (hP.sub (ws' := [(h0, .inr (10, [.ref t0, .ref r0, .ref m0, .ref x0, v4, v5, v6, v7, v8, .int 0, .int ((-1)), .int 0])), (m0, .inl (cM, 8, .inr (.inr (.inr (.inr (fun _ => none))))))]) [0, 1] rfl) (hK.sub (tys' := [(cM, .object RX1)]) [0] rfl) (hD.sub (ws' := [(h0, .inr (10, [.ref t0, .ref r0, .ref m0, .ref x0, v4, v5, v6, v7, v8, .int 0, .int ((-1)), .int 0])), (m0, .inl (cM, 8, .inr (.inr (.inr (.inr (fun _ => none))))))]) [0, 1] (by decide) rfl) hN hZ hS hFc hU hW⟩⟩ rfl rfl hl.1 rfl (lv_room (Nat.le_of_ble_eq_true rfl)) dX8_walk_4 ⟨Nat.le_of_ble_eq_true rfl, Nat.le_of_ble_eq_true rfl⟩) hS (fun q _ h => hFc q h) hFc (fun r_1 u t H1 locs ht hvm hw_2 hB hz1 hk1 hS => ?_)
  obtain ⟨hP, hD, hK⟩ := Bq.join (wr := []) hB ht hvm hP hD [0, 1] [] rfl rfl (by decide) (by decide) hk1 hFc hK
  generalize H1 = H at hP hS ⊢
  have hP : va_P (dC, dI) vwCl [] H := hP
  have hD : va_D A [] := hD
  have hK : va_K (dC, dI) vwCl [(cM, .object RX1)] s := hK
  try dsimp only at hw_2
  have k_3 := hw_2
  refine W_toi (y := -1) k_3 ?_
  have hP9 := hP.sub (ws' := []) [] rfl
  have hD9 := hD.sub (ws' := []) [] (by decide) rfl
  have hK9 := hK.sub (tys' := []) [] rfl
  exact W.iret (v := -1) hx hb hr (fun t ht hW => ⟨⟨-1, (), rfl, rfl, by rw [ht]; exact hP9, va_K.moved hW.alike hK9, hD9⟩, hS.F ht⟩) hS.2.2 dX8_walk_7
def wp_X8_readers : List Cond := .code yX8_readers cX8_readers 4 (some .int) :: ([.fieldLink RX8 24 "RecordBench" "makes" "[LRecordBench$Make;", .methodLink RX8 136 yX8_makeOf, .static yX8_makeOf, .initialized RX8, .code yX8_makeOf cX8_makeOf 2 (some (.object "RecordBench$Make"))] ++ wsX80)
set_option maxRecDepth 20000 in
theorem gp_X8_readers_X8_makeOf_136 : GoodIn wp_X8_readers (wsS RX8 136 yX8_makeOf wp_X8_makeOf) := goodIn_p _ [5] rfl (by decide +kernel)
set_option maxHeartbeats 4000000 in
set_option maxRecDepth 100000 in
theorem c_X8_readers (l : Launch) (dC : Nat → ClassId) (dI : Nat → Nat → Nat) (h0 : Nat) (t0 : Nat) (r0 : Nat) (m0 : Nat) (x0 : Nat) (v4 : Value) (v5 : Value) (v6 : Value) (v7 : Value) (v8 : Value) (cM : ClassId) (p0 : Int32) (sz : Nat) : Met l yX8_readers wp_X8_readers ({ frames := 1, cells := 0, slots := 0, locals := 25 }) (va_Pc [.ref h0, .int p0] (Pr (dC, dI) [(cM, .object RX1)] [(h0, .inr (10, [.ref t0, .ref r0, .ref m0, .ref x0, v4, v5, v6, v7, v8, .int 0, .int ((-1)), .int 0])), (m0, .inl (cM, 8, .inr (.inr (.inr (.inr (fun _ => none))))))] sz)) (va_Qi (fun r : Int32 => (fun _ : Unit => r = -1)) (Bq (dC, dI) (fun _ : Unit => []) (fun _ : Unit => []) (va_A [(h0, .inr (10, [.ref t0, .ref r0, .ref m0, .ref x0, v4, v5, v6, v7, v8, .int 0, .int ((-1)), .int 0])), (m0, .inl (cM, 8, .inr (.inr (.inr (.inr (fun _ => none))))))] sz)) (va_A [(h0, .inr (10, [.ref t0, .ref r0, .ref m0, .ref x0, v4, v5, v6, v7, v8, .int 0, .int ((-1)), .int 0])), (m0, .inl (cM, 8, .inr (.inr (.inr (.inr (fun _ => none))))))] sz)) 0 0 (va_A [(h0, .inr (10, [.ref t0, .ref r0, .ref m0, .ref x0, v4, v5, v6, v7, v8, .int 0, .int ((-1)), .int 0])), (m0, .inl (cM, 8, .inr (.inr (.inr (.inr (fun _ => none))))))] sz) := by
  refine Met.ofW (cc := cX8_readers) (maxL := 4) (ret := (some .int)) (by decide) rfl ?_
  intro p e s m args below meth c s₁ B hml hv
  obtain ⟨rfl, hsz, hP, hK, hD0, hN, hZ⟩ := hv
  have hx := B.exec
  have hb := B.bytes
  have hr := B.returns
  have hts := atoms_spec (ws := wp_X8_readers) B.pre
  have hown : s.vm.findClass RX8 = some m.cls := findClass_of_methodNamed B.named
  have hlocks := B.notSynchronized
  have iRX8 : ∀ w ∈ u_ws RX8 TX8 12, w ∈ wp_X8_readers := by decide +kernel
  subst hsz
  have hD := hD0.self (sz := s.heap.size)
  generalize hAe : va_A [(h0, .inr (10, [.ref t0, .ref r0, .ref m0, .ref x0, v4, v5, v6, v7, v8, .int 0, .int ((-1)), .int 0])), (m0, .inl (cM, 8, .inr (.inr (.inr (.inr (fun _ => none))))))] s.heap.size = A at hD hZ ⊢
  have hA : ∀ q : Nat, s.heap.size ≤ q → A q := fun q h => by rw [← hAe]; exact Or.inr h
  have hS : va_S A s.heap s.heap [] := va_S.rf
  have hP : va_P (dC, dI) vwCl [(h0, .inr (10, [.ref t0, .ref r0, .ref m0, .ref x0, v4, v5, v6, v7, v8, .int 0, .int ((-1)), .int 0])), (m0, .inl (cM, 8, .inr (.inr (.inr (.inr (fun _ => none))))))] s.heap := hP
  have hl := lv_entry ([.ref h0, .int p0]) (n := 4) (Nat.le_of_ble_eq_true rfl)
  rw [lg_entry_eq]
  generalize (lg_sl ([.ref h0, .int p0]) ++ List.replicate (4 - (lg_sl ([.ref h0, .int p0])).length) Slot.unset).toArray = ls at hl ⊢
  have hl : lv_has ls 4 [(0, .ref h0), (1, .int p0)] := hl
  refine lv_aload_n hx hb dX8_readers_0 rfl (lv_at hl 0 rfl) ?_
  refine va_get (D := (dC, dI)) (ci := 10) (v := .ref m0) (C := RX8) (T := TX8) (N := 12) hx hb hts iRX8 hown hK hP 0 rfl rfl 2 (by decide) (hts (.fieldLink RX8 24 "RecordBench" "makes" "[LRecordBench$Make;") (by decide +kernel)) (fun _ h9 => h9) rfl dX8_readers_1 ?_
  refine lv_iload_n hx hb dX8_readers_4 rfl (lv_at hl 1 rfl) ?_
  have hFc := va_free (wc := [(m0, .inl (cM, 8, .inr (.inr (.inr (.inr (fun _ => none))))))]) hD hS hA [1] rfl
  refine va_callq (va_runS (As := [.ref m0, .int p0]) (rest := []) ⟨hx, hb, hml, hown, hts⟩ (c_X8_makeOf l dC dI m0 p0 cM s.heap.size) (cwS 2 hts gp_X8_readers_X8_makeOf_136 rfl rfl rfl (by decide +kernel) ⟨Nat.le_of_ble_eq_true rfl, Nat.le_of_ble_eq_true rfl⟩) ⟨Pr.blind _, fun U hU hW => ⟨rfl, Pr.at (hP.sub (ws' := [(m0, .inl (cM, 8, .inr (.inr (.inr (.inr (fun _ => none))))))]) [1] rfl) (hK.sub (tys' := [(cM, .object RX1)]) [0] rfl) (hD.sub (ws' := [(m0, .inl (cM, 8, .inr (.inr (.inr (.inr (fun _ => none))))))]) [1] (by decide) rfl) hN hZ hS hFc hU hW⟩⟩ rfl rfl hl.1 rfl (lv_room (Nat.le_of_ble_eq_true rfl)) dX8_readers_5 ⟨Nat.le_of_ble_eq_true rfl, Nat.le_of_ble_eq_true rfl⟩) hS (fun q _ h => hFc q h) hFc (fun r_1 u t H1 locs ht hvm hw_2 hB hz1 hk1 hS => ?_)
  obtain ⟨hP, hD, hK⟩ := Bq.join (wr := [(h0, .inr (10, [.ref t0, .ref r0, .ref m0, .ref x0, v4, v5, v6, v7, v8, .int 0, .int ((-1)), .int 0]))]) hB ht hvm hP hD [1] [0] rfl rfl (by decide) (by decide) hk1 hFc hK
  generalize H1 = H at hP hS ⊢
  have hP : va_P (dC, dI) vwCl [(h0, .inr (10, [.ref t0, .ref r0, .ref m0, .ref x0, v4, v5, v6, v7, v8, .int 0, .int ((-1)), .int 0])), (m0, .inl (cM, 8, .inr (.inr (.inr (.inr (fun _ => none))))))] H := hP
  have hD : va_D A [(h0, .inr (10, [.ref t0, .ref r0, .ref m0, .ref x0, v4, v5, v6, v7, v8, .int 0, .int ((-1)), .int 0])), (m0, .inl (cM, 8, .inr (.inr (.inr (.inr (fun _ => none))))))] := hD
  have hK : va_K (dC, dI) vwCl [(cM, .object RX1)] s := hK
  try dsimp only at hw_2
  have k_3 := hw_2
  subst k_3
  refine W.eq (g2 := F0 m 8 ls [.null]) rfl ?_
  refine lv_ifnonnullN hx hb dX8_readers_8 ?_
  refine lv_iconst (v := (-1)) hx hb dX8_readers_11 (by decide) ?_
  have hP9 := hP.sub (ws' := []) [] rfl
  have hD9 := hD.sub (ws' := []) [] (by decide) rfl
  have hK9 := hK.sub (tys' := []) [] rfl
  exact W.iret (v := (-1)) hx hb hr (fun t ht hW => ⟨⟨(-1), (), rfl, rfl, by rw [ht]; exact hP9, va_K.moved hW.alike hK9, hD9⟩, hS.F ht⟩) hS.2.2 dX8_readers_12
