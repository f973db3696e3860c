theorem dX9_at_0 : decode cX9_at 0 = .ok (.iload_n 1, 1) := by decide +kernel
theorem dX9_at_1 : decode cX9_at 1 = .ok (.invokestatic 249, 3) := by decide +kernel
theorem dX9_at_11 : decode cX9_at 11 = .ok (.iload_n 2, 1) := by decide +kernel
theorem dX9_at_12 : decode cX9_at 12 = .ok (.aload_n 0, 1) := by decide +kernel
theorem dX9_at_13 : decode cX9_at 13 = .ok (.getfield 78, 3) := by decide +kernel
theorem dX9_at_16 : decode cX9_at 16 = .ok (.iload_n 1, 1) := by decide +kernel
theorem dX9_at_17 : decode cX9_at 17 = .ok (.iaload, 1) := by decide +kernel
theorem dX9_at_18 : decode cX9_at 18 = .ok (.if_icmp .ge 17, 3) := by decide +kernel
theorem dX9_at_35 : decode cX9_at 35 = .ok (.iconst (-1), 1) := by decide +kernel
theorem dX9_at_36 : decode cX9_at 36 = .ok (.ireturn, 1) := by decide +kernel
theorem dX9_at_4 : decode cX9_at 4 = .ok (.ifCond .eq 31, 3) := by decide +kernel
theorem dX9_at_7 : decode cX9_at 7 = .ok (.iload_n 2, 1) := by decide +kernel
theorem dX9_at_8 : decode cX9_at 8 = .ok (.ifCond .lt 27, 3) := by decide +kernel
theorem dX9_by_0 : decode cX9_by 0 = .ok (.aload_n 0, 1) := by decide +kernel
theorem dX9_by_1 : decode cX9_by 1 = .ok (.getfield 377, 3) := by decide +kernel
theorem dX9_by_4 : decode cX9_by 4 = .ok (.ireturn, 1) := by decide +kernel
theorem dX9_clear_0 : decode cX9_clear 0 = .ok (.iload_n 1, 1) := by decide +kernel
theorem dX9_clear_1 : decode cX9_clear 1 = .ok (.invokestatic 249, 3) := by decide +kernel
theorem dX9_clear_10 : decode cX9_clear 10 = .ok (.getfield 78, 3) := by decide +kernel
theorem dX9_clear_13 : decode cX9_clear 13 = .ok (.iload_n 1, 1) := by decide +kernel
theorem dX9_clear_14 : decode cX9_clear 14 = .ok (.iaload, 1) := by decide +kernel
theorem dX9_clear_15 : decode cX9_clear 15 = .ok (.istore_n 2, 1) := by decide +kernel
theorem dX9_clear_16 : decode cX9_clear 16 = .ok (.aload_n 0, 1) := by decide +kernel
theorem dX9_clear_17 : decode cX9_clear 17 = .ok (.getfield 78, 3) := by decide +kernel
theorem dX9_clear_20 : decode cX9_clear 20 = .ok (.iload_n 1, 1) := by decide +kernel
theorem dX9_clear_21 : decode cX9_clear 21 = .ok (.iconst 0, 1) := by decide +kernel
theorem dX9_clear_22 : decode cX9_clear 22 = .ok (.iastore, 1) := by decide +kernel
theorem dX9_clear_23 : decode cX9_clear 23 = .ok (.iload_n 2, 1) := by decide +kernel
theorem dX9_clear_24 : decode cX9_clear 24 = .ok (.ireturn, 1) := by decide +kernel
theorem dX9_clear_4 : decode cX9_clear 4 = .ok (.ifCond .ne 5, 3) := by decide +kernel
theorem dX9_clear_7 : decode cX9_clear 7 = .ok (.iconst (-1), 1) := by decide +kernel
theorem dX9_clear_8 : decode cX9_clear 8 = .ok (.ireturn, 1) := by decide +kernel
theorem dX9_clear_9 : decode cX9_clear 9 = .ok (.aload_n 0, 1) := by decide +kernel
theorem dX9_drop_0 : decode cX9_drop 0 = .ok (.iload_n 1, 1) := by decide +kernel
theorem dX9_drop_1 : decode cX9_drop 1 = .ok (.invokestatic 249, 3) := by decide +kernel
theorem dX9_drop_12 : decode cX9_drop 12 = .ok (.ifCond .eq 12, 3) := by decide +kernel
theorem dX9_drop_24 : decode cX9_drop 24 = .ok (.iconst (-1), 1) := by decide +kernel
theorem dX9_drop_25 : decode cX9_drop 25 = .ok (.ireturn, 1) := by decide +kernel
theorem dX9_drop_4 : decode cX9_drop 4 = .ok (.ifCond .eq 20, 3) := by decide +kernel
theorem dX9_drop_7 : decode cX9_drop 7 = .ok (.aload_n 0, 1) := by decide +kernel
theorem dX9_drop_8 : decode cX9_drop 8 = .ok (.iload_n 2, 1) := by decide +kernel
theorem dX9_drop_9 : decode cX9_drop 9 = .ok (.invokevirtual 239, 3) := by decide +kernel
theorem dX9_end_0 : decode cX9_end 0 = .ok (.iload_n 1, 1) := by decide +kernel
theorem dX9_end_1 : decode cX9_end 1 = .ok (.ifCond .lt 11, 3) := by decide +kernel
theorem dX9_end_12 : decode cX9_end 12 = .ok (.iconst 0, 1) := by decide +kernel
theorem dX9_end_13 : decode cX9_end 13 = .ok (.ireturn, 1) := by decide +kernel
theorem dX9_end_14 : decode cX9_end 14 = .ok (.aload_n 0, 1) := by decide +kernel
theorem dX9_end_15 : decode cX9_end 15 = .ok (.iload_n 1, 1) := by decide +kernel
theorem dX9_end_16 : decode cX9_end 16 = .ok (.putfield 132, 3) := by decide +kernel
theorem dX9_end_19 : decode cX9_end 19 = .ok (.iconst 1, 1) := by decide +kernel
theorem dX9_end_20 : decode cX9_end 20 = .ok (.ireturn, 1) := by decide +kernel
theorem dX9_end_4 : decode cX9_end 4 = .ok (.iload_n 1, 1) := by decide +kernel
theorem dX9_end_5 : decode cX9_end 5 = .ok (.aload_n 0, 1) := by decide +kernel
theorem dX9_end_6 : decode cX9_end 6 = .ok (.getfield 132, 3) := by decide +kernel
theorem dX9_end_9 : decode cX9_end 9 = .ok (.if_icmp .le 5, 3) := by decide +kernel
theorem dX9_fault_0 : decode cX9_fault 0 = .ok (.iload_n 1, 1) := by decide +kernel
theorem dX9_fault_1 : decode cX9_fault 1 = .ok (.ifCond .ne 10, 3) := by decide +kernel
theorem dX9_fault_11 : decode cX9_fault 11 = .ok (.iload_n 1, 1) := by decide +kernel
theorem dX9_fault_12 : decode cX9_fault 12 = .ok (.iconst 1, 1) := by decide +kernel
theorem dX9_fault_13 : decode cX9_fault 13 = .ok (.if_icmp .ne 10, 3) := by decide +kernel
theorem dX9_fault_16 : decode cX9_fault 16 = .ok (.aload_n 0, 1) := by decide +kernel
theorem dX9_fault_17 : decode cX9_fault 17 = .ok (.getfield 42, 3) := by decide +kernel
theorem dX9_fault_20 : decode cX9_fault 20 = .ok (.goto 4, 3) := by decide +kernel
theorem dX9_fault_23 : decode cX9_fault 23 = .ok (.iconst (-1), 1) := by decide +kernel
theorem dX9_fault_24 : decode cX9_fault 24 = .ok (.ireturn, 1) := by decide +kernel
theorem dX9_fault_4 : decode cX9_fault 4 = .ok (.aload_n 0, 1) := by decide +kernel
theorem dX9_fault_5 : decode cX9_fault 5 = .ok (.getfield 236, 3) := by decide +kernel
theorem dX9_fault_8 : decode cX9_fault 8 = .ok (.goto 16, 3) := by decide +kernel
theorem dX9_feed_0 : decode cX9_feed 0 = .ok (.aload_n 0, 1) := by decide +kernel
theorem dX9_feed_1 : decode cX9_feed 1 = .ok (.getfield 132, 3) := by decide +kernel
theorem dX9_feed_10 : decode cX9_feed 10 = .ok (.if_icmp .le 5, 3) := by decide +kernel
theorem dX9_feed_100 : decode cX9_feed 100 = .ok (.getfield 132, 3) := by decide +kernel
theorem dX9_feed_103 : decode cX9_feed 103 = .ok (.iconst 1, 1) := by decide +kernel
theorem dX9_feed_104 : decode cX9_feed 104 = .ok (.iadd, 1) := by decide +kernel
theorem dX9_feed_105 : decode cX9_feed 105 = .ok (.putfield 132, 3) := by decide +kernel
theorem dX9_feed_108 : decode cX9_feed 108 = .ok (.iinc 6 1, 3) := by decide +kernel
theorem dX9_feed_111 : decode cX9_feed 111 = .ok (.goto (-93), 3) := by decide +kernel
theorem dX9_feed_114 : decode cX9_feed 114 = .ok (.aload_n 0, 1) := by decide +kernel
theorem dX9_feed_115 : decode cX9_feed 115 = .ok (.getfield 132, 3) := by decide +kernel
theorem dX9_feed_118 : decode cX9_feed 118 = .ok (.ireturn, 1) := by decide +kernel
theorem dX9_feed_15 : decode cX9_feed 15 = .ok (.iconst 0, 1) := by decide +kernel
theorem dX9_feed_16 : decode cX9_feed 16 = .ok (.istore 6, 2) := by decide +kernel
theorem dX9_feed_18 : decode cX9_feed 18 = .ok (.iload 6, 2) := by decide +kernel
theorem dX9_feed_20 : decode cX9_feed 20 = .ok (.bipush 20, 2) := by decide +kernel
theorem dX9_feed_22 : decode cX9_feed 22 = .ok (.if_icmp .ge 92, 3) := by decide +kernel
theorem dX9_feed_25 : decode cX9_feed 25 = .ok (.iload 6, 2) := by decide +kernel
theorem dX9_feed_27 : decode cX9_feed 27 = .ok (.iconst 4, 1) := by decide +kernel
theorem dX9_feed_28 : decode cX9_feed 28 = .ok (.if_icmp .ge 7, 3) := by decide +kernel
theorem dX9_feed_31 : decode cX9_feed 31 = .ok (.iload_n 1, 1) := by decide +kernel
theorem dX9_feed_32 : decode cX9_feed 32 = .ok (.goto 39, 3) := by decide +kernel
theorem dX9_feed_35 : decode cX9_feed 35 = .ok (.iload 6, 2) := by decide +kernel
theorem dX9_feed_37 : decode cX9_feed 37 = .ok (.bipush 8, 2) := by decide +kernel
theorem dX9_feed_39 : decode cX9_feed 39 = .ok (.if_icmp .ge 7, 3) := by decide +kernel
theorem dX9_feed_4 : decode cX9_feed 4 = .ok (.bipush 20, 2) := by decide +kernel
theorem dX9_feed_42 : decode cX9_feed 42 = .ok (.iload_n 2, 1) := by decide +kernel
theorem dX9_feed_43 : decode cX9_feed 43 = .ok (.goto 28, 3) := by decide +kernel
theorem dX9_feed_46 : decode cX9_feed 46 = .ok (.iload 6, 2) := by decide +kernel
theorem dX9_feed_48 : decode cX9_feed 48 = .ok (.bipush 12, 2) := by decide +kernel
theorem dX9_feed_50 : decode cX9_feed 50 = .ok (.if_icmp .ge 7, 3) := by decide +kernel
theorem dX9_feed_53 : decode cX9_feed 53 = .ok (.iload_n 3, 1) := by decide +kernel
theorem dX9_feed_54 : decode cX9_feed 54 = .ok (.goto 17, 3) := by decide +kernel
theorem dX9_feed_57 : decode cX9_feed 57 = .ok (.iload 6, 2) := by decide +kernel
theorem dX9_feed_59 : decode cX9_feed 59 = .ok (.bipush 16, 2) := by decide +kernel
theorem dX9_feed_6 : decode cX9_feed 6 = .ok (.iadd, 1) := by decide +kernel
theorem dX9_feed_61 : decode cX9_feed 61 = .ok (.if_icmp .ge 8, 3) := by decide +kernel
theorem dX9_feed_64 : decode cX9_feed 64 = .ok (.iload 4, 2) := by decide +kernel
theorem dX9_feed_66 : decode cX9_feed 66 = .ok (.goto 5, 3) := by decide +kernel
theorem dX9_feed_69 : decode cX9_feed 69 = .ok (.iload 5, 2) := by decide +kernel
theorem dX9_feed_7 : decode cX9_feed 7 = .ok (.sipush 400, 3) := by decide +kernel
theorem dX9_feed_71 : decode cX9_feed 71 = .ok (.istore 7, 2) := by decide +kernel
theorem dX9_feed_73 : decode cX9_feed 73 = .ok (.aload_n 0, 1) := by decide +kernel
theorem dX9_feed_74 : decode cX9_feed 74 = .ok (.getfield 39, 3) := by decide +kernel
theorem dX9_feed_77 : decode cX9_feed 77 = .ok (.aload_n 0, 1) := by decide +kernel
theorem dX9_feed_78 : decode cX9_feed 78 = .ok (.getfield 132, 3) := by decide +kernel
theorem dX9_feed_81 : decode cX9_feed 81 = .ok (.iload 7, 2) := by decide +kernel
theorem dX9_feed_83 : decode cX9_feed 83 = .ok (.bipush 8, 2) := by decide +kernel
theorem dX9_feed_85 : decode cX9_feed 85 = .ok (.iconst 3, 1) := by decide +kernel
theorem dX9_feed_86 : decode cX9_feed 86 = .ok (.iload 6, 2) := by decide +kernel
theorem dX9_feed_88 : decode cX9_feed 88 = .ok (.iconst 4, 1) := by decide +kernel
theorem dX9_feed_89 : decode cX9_feed 89 = .ok (.irem, 1) := by decide +kernel
theorem dX9_feed_90 : decode cX9_feed 90 = .ok (.isub, 1) := by decide +kernel
theorem dX9_feed_91 : decode cX9_feed 91 = .ok (.imul, 1) := by decide +kernel
theorem dX9_feed_92 : decode cX9_feed 92 = .ok (.ishr, 1) := by decide +kernel
theorem dX9_feed_93 : decode cX9_feed 93 = .ok (.sipush 255, 3) := by decide +kernel
theorem dX9_feed_96 : decode cX9_feed 96 = .ok (.iand, 1) := by decide +kernel
theorem dX9_feed_97 : decode cX9_feed 97 = .ok (.iastore, 1) := by decide +kernel
theorem dX9_feed_98 : decode cX9_feed 98 = .ok (.aload_n 0, 1) := by decide +kernel
theorem dX9_feed_99 : decode cX9_feed 99 = .ok (.dup, 1) := by decide +kernel
theorem dX9_field__0 : decode cX9_field_ 0 = .ok (.aload_n 0, 1) := by decide +kernel
theorem dX9_field__1 : decode cX9_field_ 1 = .ok (.iload_n 1, 1) := by decide +kernel
theorem dX9_field__10 : decode cX9_field_ 10 = .ok (.ireturn, 1) := by decide +kernel
theorem dX9_field__2 : decode cX9_field_ 2 = .ok (.iload_n 2, 1) := by decide +kernel
theorem dX9_field__3 : decode cX9_field_ 3 = .ok (.invokevirtual 242, 3) := by decide +kernel
theorem dX9_field__6 : decode cX9_field_ 6 = .ok (.ifCond .ne 5, 3) := by decide +kernel
theorem dX9_field__9 : decode cX9_field_ 9 = .ok (.iconst (-1), 1) := by decide +kernel
theorem dX9_get_0 : decode cX9_get 0 = .ok (.iload_n 1, 1) := by decide +kernel
theorem dX9_get_1 : decode cX9_get 1 = .ok (.invokestatic 249, 3) := by decide +kernel
theorem dX9_get_12 : decode cX9_get 12 = .ok (.ifCond .eq 32, 3) := by decide +kernel
theorem dX9_get_4 : decode cX9_get 4 = .ok (.ifCond .eq 40, 3) := by decide +kernel
theorem dX9_get_44 : decode cX9_get 44 = .ok (.ldc2_w 311, 3) := by decide +kernel
theorem dX9_get_47 : decode cX9_get 47 = .ok (.lreturn, 1) := by decide +kernel
theorem dX9_get_7 : decode cX9_get 7 = .ok (.aload_n 0, 1) := by decide +kernel
theorem dX9_get_8 : decode cX9_get 8 = .ok (.iload_n 2, 1) := by decide +kernel
theorem dX9_get_9 : decode cX9_get 9 = .ok (.invokevirtual 239, 3) := by decide +kernel
theorem dX9_isField_0 : decode cX9_isField 0 = .ok (.aload_n 0, 1) := by decide +kernel
theorem dX9_isField_1 : decode cX9_isField 1 = .ok (.iload_n 1, 1) := by decide +kernel
theorem dX9_isField_2 : decode cX9_isField 2 = .ok (.invokevirtual 239, 3) := by decide +kernel
theorem dX9_isField_36 : decode cX9_isField 36 = .ok (.iconst 0, 1) := by decide +kernel
theorem dX9_isField_37 : decode cX9_isField 37 = .ok (.ireturn, 1) := by decide +kernel
theorem dX9_isField_5 : decode cX9_isField 5 = .ok (.ifCond .eq 31, 3) := by decide +kernel
theorem dX9_isMake_0 : decode cX9_isMake 0 = .ok (.iload_n 1, 1) := by decide +kernel
theorem dX9_isMake_1 : decode cX9_isMake 1 = .ok (.ifCond .lt 22, 3) := by decide +kernel
theorem dX9_isMake_10 : decode cX9_isMake 10 = .ok (.aload_n 0, 1) := by decide +kernel
theorem dX9_isMake_11 : decode cX9_isMake 11 = .ok (.getfield 7, 3) := by decide +kernel
theorem dX9_isMake_14 : decode cX9_isMake 14 = .ok (.iload_n 1, 1) := by decide +kernel
theorem dX9_isMake_15 : decode cX9_isMake 15 = .ok (.baload, 1) := by decide +kernel
theorem dX9_isMake_16 : decode cX9_isMake 16 = .ok (.ifCond .eq 7, 3) := by decide +kernel
theorem dX9_isMake_23 : decode cX9_isMake 23 = .ok (.iconst 0, 1) := by decide +kernel
theorem dX9_isMake_24 : decode cX9_isMake 24 = .ok (.ireturn, 1) := by decide +kernel
theorem dX9_isMake_4 : decode cX9_isMake 4 = .ok (.iload_n 1, 1) := by decide +kernel
theorem dX9_isMake_5 : decode cX9_isMake 5 = .ok (.bipush 8, 2) := by decide +kernel
theorem dX9_isMake_7 : decode cX9_isMake 7 = .ok (.if_icmp .ge 16, 3) := by decide +kernel
theorem dX9_isRecord_0 : decode cX9_isRecord 0 = .ok (.iload_n 0, 1) := by decide +kernel
theorem dX9_isRecord_1 : decode cX9_isRecord 1 = .ok (.ifCond .lt 12, 3) := by decide +kernel
theorem dX9_isRecord_10 : decode cX9_isRecord 10 = .ok (.goto 4, 3) := by decide +kernel
theorem dX9_isRecord_13 : decode cX9_isRecord 13 = .ok (.iconst 0, 1) := by decide +kernel
theorem dX9_isRecord_14 : decode cX9_isRecord 14 = .ok (.ireturn, 1) := by decide +kernel
theorem dX9_isRecord_4 : decode cX9_isRecord 4 = .ok (.iload_n 0, 1) := by decide +kernel
theorem dX9_isRecord_5 : decode cX9_isRecord 5 = .ok (.iconst 4, 1) := by decide +kernel
theorem dX9_isRecord_6 : decode cX9_isRecord 6 = .ok (.if_icmp .ge 7, 3) := by decide +kernel
theorem dX9_isRecord_9 : decode cX9_isRecord 9 = .ok (.iconst 1, 1) := by decide +kernel
theorem dX9_kept_0 : decode cX9_kept 0 = .ok (.iload_n 1, 1) := by decide +kernel
theorem dX9_kept_1 : decode cX9_kept 1 = .ok (.invokestatic 249, 3) := by decide +kernel
theorem dX9_kept_12 : decode cX9_kept 12 = .ok (.ifCond .eq 12, 3) := by decide +kernel
theorem dX9_kept_24 : decode cX9_kept 24 = .ok (.iconst (-1), 1) := by decide +kernel
theorem dX9_kept_25 : decode cX9_kept 25 = .ok (.ireturn, 1) := by decide +kernel
theorem dX9_kept_4 : decode cX9_kept 4 = .ok (.ifCond .eq 20, 3) := by decide +kernel
theorem dX9_kept_7 : decode cX9_kept 7 = .ok (.aload_n 0, 1) := by decide +kernel
theorem dX9_kept_8 : decode cX9_kept 8 = .ok (.iload_n 2, 1) := by decide +kernel
theorem dX9_kept_9 : decode cX9_kept 9 = .ok (.invokevirtual 239, 3) := by decide +kernel
theorem dX9_load_0 : decode cX9_load 0 = .ok (.iload_n 1, 1) := by decide +kernel
theorem dX9_load_1 : decode cX9_load 1 = .ok (.invokestatic 249, 3) := by decide +kernel
theorem dX9_load_11 : decode cX9_load 11 = .ok (.bipush 120, 2) := by decide +kernel
theorem dX9_load_13 : decode cX9_load 13 = .ok (.if_icmp .le 5, 3) := by decide +kernel
theorem dX9_load_16 : decode cX9_load 16 = .ok (.iconst (-1), 1) := by decide +kernel
theorem dX9_load_17 : decode cX9_load 17 = .ok (.ireturn, 1) := by decide +kernel
theorem dX9_load_18 : decode cX9_load 18 = .ok (.iconst 0, 1) := by decide +kernel
theorem dX9_load_19 : decode cX9_load 19 = .ok (.istore_n 2, 1) := by decide +kernel
theorem dX9_load_20 : decode cX9_load 20 = .ok (.iload_n 2, 1) := by decide +kernel
theorem dX9_load_21 : decode cX9_load 21 = .ok (.aload_n 0, 1) := by decide +kernel
theorem dX9_load_22 : decode cX9_load 22 = .ok (.getfield 132, 3) := by decide +kernel
theorem dX9_load_25 : decode cX9_load 25 = .ok (.if_icmp .ge 26, 3) := by decide +kernel
theorem dX9_load_4 : decode cX9_load 4 = .ok (.ifCond .eq 12, 3) := by decide +kernel
theorem dX9_load_51 : decode cX9_load 51 = .ok (.aload_n 0, 1) := by decide +kernel
theorem dX9_load_52 : decode cX9_load 52 = .ok (.getfield 78, 3) := by decide +kernel
theorem dX9_load_55 : decode cX9_load 55 = .ok (.iload_n 1, 1) := by decide +kernel
theorem dX9_load_56 : decode cX9_load 56 = .ok (.aload_n 0, 1) := by decide +kernel
theorem dX9_load_57 : decode cX9_load 57 = .ok (.getfield 132, 3) := by decide +kernel
theorem dX9_load_60 : decode cX9_load 60 = .ok (.iastore, 1) := by decide +kernel
theorem dX9_load_61 : decode cX9_load 61 = .ok (.aload_n 0, 1) := by decide +kernel
theorem dX9_load_62 : decode cX9_load 62 = .ok (.iconst 0, 1) := by decide +kernel
theorem dX9_load_63 : decode cX9_load 63 = .ok (.putfield 132, 3) := by decide +kernel
theorem dX9_load_66 : decode cX9_load 66 = .ok (.aload_n 0, 1) := by decide +kernel
theorem dX9_load_67 : decode cX9_load 67 = .ok (.getfield 78, 3) := by decide +kernel
theorem dX9_load_7 : decode cX9_load 7 = .ok (.aload_n 0, 1) := by decide +kernel
theorem dX9_load_70 : decode cX9_load 70 = .ok (.iload_n 1, 1) := by decide +kernel
theorem dX9_load_71 : decode cX9_load 71 = .ok (.iaload, 1) := by decide +kernel
theorem dX9_load_72 : decode cX9_load 72 = .ok (.ireturn, 1) := by decide +kernel
theorem dX9_load_8 : decode cX9_load 8 = .ok (.getfield 132, 3) := by decide +kernel
theorem dX9_nest_0 : decode cX9_nest 0 = .ok (.iload_n 1, 1) := by decide +kernel
theorem dX9_nest_1 : decode cX9_nest 1 = .ok (.invokestatic 249, 3) := by decide +kernel
theorem dX9_nest_12 : decode cX9_nest 12 = .ok (.ifCond .eq 42, 3) := by decide +kernel
theorem dX9_nest_15 : decode cX9_nest 15 = .ok (.iload_n 1, 1) := by decide +kernel
theorem dX9_nest_16 : decode cX9_nest 16 = .ok (.iload 4, 2) := by decide +kernel
theorem dX9_nest_18 : decode cX9_nest 18 = .ok (.if_icmp .eq 36, 3) := by decide +kernel
theorem dX9_nest_21 : decode cX9_nest 21 = .ok (.aload_n 0, 1) := by decide +kernel
theorem dX9_nest_22 : decode cX9_nest 22 = .ok (.iload_n 2, 1) := by decide +kernel
theorem dX9_nest_23 : decode cX9_nest 23 = .ok (.invokevirtual 239, 3) := by decide +kernel
theorem dX9_nest_26 : decode cX9_nest 26 = .ok (.ifCond .eq 28, 3) := by decide +kernel
theorem dX9_nest_4 : decode cX9_nest 4 = .ok (.ifCond .eq 50, 3) := by decide +kernel
theorem dX9_nest_54 : decode cX9_nest 54 = .ok (.iconst (-1), 1) := by decide +kernel
theorem dX9_nest_55 : decode cX9_nest 55 = .ok (.ireturn, 1) := by decide +kernel
theorem dX9_nest_7 : decode cX9_nest 7 = .ok (.iload 4, 2) := by decide +kernel
theorem dX9_nest_9 : decode cX9_nest 9 = .ok (.invokestatic 249, 3) := by decide +kernel
theorem dX9_open_0 : decode cX9_open 0 = .ok (.iload_n 1, 1) := by decide +kernel
theorem dX9_open_1 : decode cX9_open 1 = .ok (.invokestatic 249, 3) := by decide +kernel
theorem dX9_open_12 : decode cX9_open 12 = .ok (.ifCond .eq 36, 3) := by decide +kernel
theorem dX9_open_15 : decode cX9_open 15 = .ok (.aload_n 0, 1) := by decide +kernel
theorem dX9_open_16 : decode cX9_open 16 = .ok (.iload_n 2, 1) := by decide +kernel
theorem dX9_open_17 : decode cX9_open 17 = .ok (.invokevirtual 239, 3) := by decide +kernel
theorem dX9_open_20 : decode cX9_open 20 = .ok (.ifCond .eq 28, 3) := by decide +kernel
theorem dX9_open_4 : decode cX9_open 4 = .ok (.ifCond .eq 44, 3) := by decide +kernel
theorem dX9_open_48 : decode cX9_open 48 = .ok (.iconst (-1), 1) := by decide +kernel
theorem dX9_open_49 : decode cX9_open 49 = .ok (.ireturn, 1) := by decide +kernel
theorem dX9_open_7 : decode cX9_open 7 = .ok (.iload 4, 2) := by decide +kernel
theorem dX9_open_9 : decode cX9_open 9 = .ok (.invokestatic 249, 3) := by decide +kernel
theorem dX9_plain_0 : decode cX9_plain 0 = .ok (.aload_n 0, 1) := by decide +kernel
theorem dX9_plain_1 : decode cX9_plain 1 = .ok (.iload_n 1, 1) := by decide +kernel
theorem dX9_plain_2 : decode cX9_plain 2 = .ok (.iload_n 2, 1) := by decide +kernel
theorem dX9_plain_3 : decode cX9_plain 3 = .ok (.invokevirtual 242, 3) := by decide +kernel
theorem dX9_plain_48 : decode cX9_plain 48 = .ok (.lconst 0, 1) := by decide +kernel
theorem dX9_plain_49 : decode cX9_plain 49 = .ok (.lreturn, 1) := by decide +kernel
theorem dX9_plain_6 : decode cX9_plain 6 = .ok (.ifCond .eq 42, 3) := by decide +kernel
theorem dX9_read_0 : decode cX9_read 0 = .ok (.iload_n 1, 1) := by decide +kernel
theorem dX9_read_1 : decode cX9_read 1 = .ok (.invokestatic 249, 3) := by decide +kernel
theorem dX9_read_12 : decode cX9_read 12 = .ok (.ifCond .ne 6, 3) := by decide +kernel
theorem dX9_read_15 : decode cX9_read 15 = .ok (.bipush (-2), 2) := by decide +kernel
theorem dX9_read_17 : decode cX9_read 17 = .ok (.ireturn, 1) := by decide +kernel
theorem dX9_read_4 : decode cX9_read 4 = .ok (.ifCond .eq 11, 3) := by decide +kernel
theorem dX9_read_7 : decode cX9_read 7 = .ok (.aload_n 0, 1) := by decide +kernel
theorem dX9_read_8 : decode cX9_read 8 = .ok (.iload_n 2, 1) := by decide +kernel
theorem dX9_read_9 : decode cX9_read 9 = .ok (.invokevirtual 239, 3) := by decide +kernel
theorem dX9_readers_0 : decode cX9_readers 0 = .ok (.aload_n 0, 1) := by decide +kernel
theorem dX9_readers_1 : decode cX9_readers 1 = .ok (.iload_n 1, 1) := by decide +kernel
theorem dX9_readers_2 : decode cX9_readers 2 = .ok (.invokevirtual 239, 3) := by decide +kernel
theorem dX9_readers_5 : decode cX9_readers 5 = .ok (.ifCond .ne 5, 3) := by decide +kernel
theorem dX9_readers_8 : decode cX9_readers 8 = .ok (.iconst (-1), 1) := by decide +kernel
theorem dX9_readers_9 : decode cX9_readers 9 = .ok (.ireturn, 1) := by decide +kernel
theorem dX9_say_0 : decode cX9_say 0 = .ok (.aload_n 0, 1) := by decide +kernel
theorem dX9_say_1 : decode cX9_say 1 = .ok (.getfield 132, 3) := by decide +kernel
theorem dX9_say_11 : decode cX9_say 11 = .ok (.iload_n 1, 1) := by decide +kernel
theorem dX9_say_12 : decode cX9_say 12 = .ok (.invokestatic 249, 3) := by decide +kernel
theorem dX9_say_15 : decode cX9_say 15 = .ok (.ifCond .eq 35, 3) := by decide +kernel
theorem dX9_say_18 : decode cX9_say 18 = .ok (.aload_n 0, 1) := by decide +kernel
theorem dX9_say_19 : decode cX9_say 19 = .ok (.iload_n 2, 1) := by decide +kernel
theorem dX9_say_20 : decode cX9_say 20 = .ok (.invokevirtual 239, 3) := by decide +kernel
theorem dX9_say_23 : decode cX9_say 23 = .ok (.ifCond .eq 27, 3) := by decide +kernel
theorem dX9_say_4 : decode cX9_say 4 = .ok (.istore 4, 2) := by decide +kernel
theorem dX9_say_50 : decode cX9_say 50 = .ok (.iconst (-1), 1) := by decide +kernel
theorem dX9_say_51 : decode cX9_say 51 = .ok (.ireturn, 1) := by decide +kernel
theorem dX9_say_6 : decode cX9_say 6 = .ok (.aload_n 0, 1) := by decide +kernel
theorem dX9_say_7 : decode cX9_say 7 = .ok (.iconst 0, 1) := by decide +kernel
theorem dX9_say_8 : decode cX9_say 8 = .ok (.putfield 132, 3) := by decide +kernel
theorem dX9_set_0 : decode cX9_set 0 = .ok (.iload_n 1, 1) := by decide +kernel
theorem dX9_set_1 : decode cX9_set 1 = .ok (.invokestatic 249, 3) := by decide +kernel
theorem dX9_set_12 : decode cX9_set 12 = .ok (.ifCond .eq 27, 3) := by decide +kernel
theorem dX9_set_39 : decode cX9_set 39 = .ok (.iconst (-1), 1) := by decide +kernel
theorem dX9_set_4 : decode cX9_set 4 = .ok (.ifCond .eq 35, 3) := by decide +kernel
theorem dX9_set_40 : decode cX9_set 40 = .ok (.ireturn, 1) := by decide +kernel
theorem dX9_set_7 : decode cX9_set 7 = .ok (.aload_n 0, 1) := by decide +kernel
theorem dX9_set_8 : decode cX9_set 8 = .ok (.iload_n 2, 1) := by decide +kernel
theorem dX9_set_9 : decode cX9_set 9 = .ok (.invokevirtual 239, 3) := by decide +kernel
theorem dX9_step_0 : decode cX9_step 0 = .ok (.aload_n 0, 1) := by decide +kernel
theorem dX9_step_1 : decode cX9_step 1 = .ok (.iload_n 1, 1) := by decide +kernel
theorem dX9_step_2 : decode cX9_step 2 = .ok (.iload_n 2, 1) := by decide +kernel
theorem dX9_step_3 : decode cX9_step 3 = .ok (.iload_n 2, 1) := by decide +kernel
theorem dX9_step_4 : decode cX9_step 4 = .ok (.invokevirtual 380, 3) := by decide +kernel
theorem dX9_step_7 : decode cX9_step 7 = .ok (.ireturn, 1) := by decide +kernel
theorem dX9_walk_0 : decode cX9_walk 0 = .ok (.aload_n 0, 1) := by decide +kernel
theorem dX9_walk_1 : decode cX9_walk 1 = .ok (.iload_n 1, 1) := by decide +kernel
theorem dX9_walk_2 : decode cX9_walk 2 = .ok (.invokevirtual 239, 3) := by decide +kernel
theorem dX9_walk_24 : decode cX9_walk 24 = .ok (.iconst (-1), 1) := by decide +kernel
theorem dX9_walk_25 : decode cX9_walk 25 = .ok (.ireturn, 1) := by decide +kernel
theorem dX9_walk_5 : decode cX9_walk 5 = .ok (.ifCond .eq 19, 3) := by decide +kernel
theorem dX9_write_0 : decode cX9_write 0 = .ok (.iload_n 1, 1) := by decide +kernel
theorem dX9_write_1 : decode cX9_write 1 = .ok (.invokestatic 249, 3) := by decide +kernel
theorem dX9_write_11 : decode cX9_write 11 = .ok (.ifCond .eq 11, 3) := by decide +kernel
theorem dX9_write_14 : decode cX9_write 14 = .ok (.aload_n 0, 1) := by decide +kernel
theorem dX9_write_15 : decode cX9_write 15 = .ok (.iload_n 2, 1) := by decide +kernel
theorem dX9_write_16 : decode cX9_write 16 = .ok (.invokevirtual 239, 3) := by decide +kernel
theorem dX9_write_19 : decode cX9_write 19 = .ok (.ifCond .ne 5, 3) := by decide +kernel
theorem dX9_write_22 : decode cX9_write 22 = .ok (.iconst (-1), 1) := by decide +kernel
theorem dX9_write_23 : decode cX9_write 23 = .ok (.ireturn, 1) := by decide +kernel
theorem dX9_write_4 : decode cX9_write 4 = .ok (.ifCond .eq 18, 3) := by decide +kernel
theorem dX9_write_7 : decode cX9_write 7 = .ok (.iload_n 3, 1) := by decide +kernel
theorem dX9_write_8 : decode cX9_write 8 = .ok (.invokestatic 249, 3) := by decide +kernel
def wp_X9_isRecord : List Cond := .code yX9_isRecord cX9_isRecord 1 (some .boolean) :: ([])
set_option maxHeartbeats 4000000 in
set_option maxRecDepth 100000 in
theorem c_X9_isRecord (l : Launch) (dC : Nat → ClassId) (dI : Nat → Nat → Nat) (p0 : Int32) (sz : Nat) : Met l yX9_isRecord wp_X9_isRecord ({ frames := 0, cells := 0, slots := 0, locals := 0 }) (va_Pc [.int p0] (Pr (dC, dI) [] [] sz)) (va_Qi (fun r : Int32 => (fun _ : Unit => ((p0 < 0 ∨ 4 ≤ p0) ∧ r = 0) ∨ (¬ (p0 < 0 ∨ 4 ≤ p0) ∧ r = 1))) (Bq (dC, dI) (fun _ : Unit => []) (fun _ : Unit => []) (va_A [] sz)) (va_A [] sz)) 0 0 (va_A [] sz) := by
  refine Met.ofW (cc := cX9_isRecord) (maxL := 1) (ret := (some .boolean)) (by decide) rfl ?_
  intro p e s m args below meth c s₁ B hml hv
  obtain ⟨rfl, hsz, hP, hK, hD0, hN, hZ⟩ := hv
  have hx := B.exec
  have hb := B.bytes
  have hr := B.returns
  have hts := atoms_spec (ws := wp_X9_isRecord) B.pre
  have hown : s.vm.findClass RX9 = some m.cls := findClass_of_methodNamed B.named
  have hlocks := B.notSynchronized
  subst hsz
  have hD := hD0.self (sz := s.heap.size)
  generalize hAe : va_A [] s.heap.size = A at hD hZ ⊢
  have hA : ∀ q : Nat, s.heap.size ≤ q → A q := fun q h => by rw [← hAe]; exact Or.inr h
  have hS : va_S A s.heap s.heap [] := va_S.rf
  have hP : va_P (dC, dI) vwCl [] s.heap := hP
  have hl := lv_entry ([.int p0]) (n := 1) (Nat.le_of_ble_eq_true rfl)
  rw [lg_entry_eq]
  generalize (lg_sl ([.int p0]) ++ List.replicate (1 - (lg_sl ([.int p0])).length) Slot.unset).toArray = ls at hl ⊢
  have hl : lv_has ls 1 [(0, .int p0)] := hl
  refine lv_iload_n hx hb dX9_isRecord_0 rfl (lv_at hl 0 rfl) ?_
  refine lv_if_lt (tgt := 13) hx hb dX9_isRecord_1 (by decide) (fun c_1 => ?_) (fun c_1 => ?_)
  · refine lv_iconst (v := 0) hx hb dX9_isRecord_13 (by decide) ?_
    have hP9 := hP.sub (ws' := []) [] rfl
    have hD9 := hD.sub (ws' := []) [] (by decide) rfl
    have hK9 := hK.sub (tys' := []) [] rfl
    exact W.zret (v := 0) hx hb hr rfl (fun t ht hW => ⟨⟨0, (), rfl, Or.inl ⟨Or.inl c_1, rfl⟩, by rw [ht]; exact hP9, va_K.moved hW.alike hK9, hD9⟩, hS.F ht⟩) hS.2.2 dX9_isRecord_14
  · refine lv_iload_n hx hb dX9_isRecord_4 rfl (lv_at hl 0 rfl) ?_
    refine lv_iconst (v := 4) hx hb dX9_isRecord_5 (by decide) ?_
    refine lv_icmp_ge (tgt := 13) hx hb dX9_isRecord_6 (by decide) (fun c_2 => ?_) (fun c_2 => ?_)
    · refine lv_iconst (v := 0) hx hb dX9_isRecord_13 (by decide) ?_
      have hP9 := hP.sub (ws' := []) [] rfl
      have hD9 := hD.sub (ws' := []) [] (by decide) rfl
      have hK9 := hK.sub (tys' := []) [] rfl
      exact W.zret (v := 0) hx hb hr rfl (fun t ht hW => ⟨⟨0, (), rfl, Or.inl ⟨Or.inr c_2, rfl⟩, by rw [ht]; exact hP9, va_K.moved hW.alike hK9, hD9⟩, hS.F ht⟩) hS.2.2 dX9_isRecord_14
    · refine lv_iconst (v := 1) hx hb dX9_isRecord_9 (by decide) ?_
      refine lv_goto (tgt := 14) hx hb dX9_isRecord_10 (by decide) ?_
      have hP9 := hP.sub (ws' := []) [] rfl
      have hD9 := hD.sub (ws' := []) [] (by decide) rfl
      have hK9 := hK.sub (tys' := []) [] rfl
      exact W.zret (v := 1) hx hb hr rfl (fun t ht hW => ⟨⟨1, (), rfl, Or.inr ⟨fun h => h.elim c_1 c_2, rfl⟩, by rw [ht]; exact hP9, va_K.moved hW.alike hK9, hD9⟩, hS.F ht⟩) hS.2.2 dX9_isRecord_14
def wp_X9_isMake : List Cond := .code yX9_isMake cX9_isMake 2 (some .boolean) :: ([.fieldLink RX9 7 "RecordBenchModel" "told" "[Z"] ++ wsX90)
set_option maxHeartbeats 4000000 in
set_option maxRecDepth 100000 in
theorem c_X9_isMake (l : Launch) (dC : Nat → ClassId) (dI : Nat → Nat → Nat) (h0 : Nat) (fs : List Value) (hfs : fs.length = 60) (a0 : Nat) (cZ : ClassId) (fh0 : fs[0]? = some (.ref a0)) (p0 : Int32) (sz : Nat) : Met l yX9_isMake wp_X9_isMake ({ frames := 0, cells := 0, slots := 0, locals := 0 }) (va_Pc [.ref h0, .int p0] (Pr (dC, dI) [(cZ, .boolean)] [(h0, .inr (11, fs)), (a0, .inl (cZ, 8, .inl (fun _ => 0)))] sz)) (va_Qi (fun r : Int32 => (fun _ : Unit => r = 0)) (Bq (dC, dI) (fun _ : Unit => []) (fun _ : Unit => []) (va_A [(h0, .inr (11, fs)), (a0, .inl (cZ, 8, .inl (fun _ => 0)))] sz)) (va_A [(h0, .inr (11, fs)), (a0, .inl (cZ, 8, .inl (fun _ => 0)))] sz)) 0 0 (va_A [(h0, .inr (11, fs)), (a0, .inl (cZ, 8, .inl (fun _ => 0)))] sz) := by
  refine Met.ofW (cc := cX9_isMake) (maxL := 2) (ret := (some .boolean)) (by decide) rfl ?_
  intro p e s m args below meth c s₁ B hml hv
  obtain ⟨rfl, hsz, hP, hK, hD0, hN, hZ⟩ := hv
  have hx := B.exec
  have hb := B.bytes
  have hr := B.returns
  have hts := atoms_spec (ws := wp_X9_isMake) B.pre
  have hown : s.vm.findClass RX9 = some m.cls := findClass_of_methodNamed B.named
  have hlocks := B.notSynchronized
  have iRX9 : ∀ w ∈ u_ws RX9 TX9 60, w ∈ wp_X9_isMake := by decide +kernel
  subst hsz
  have hD := hD0.self (sz := s.heap.size)
  generalize hAe : va_A [(h0, .inr (11, fs)), (a0, .inl (cZ, 8, .inl (fun _ => 0)))] s.heap.size = A at hD hZ ⊢
  have hA : ∀ q : Nat, s.heap.size ≤ q → A q := fun q h => by rw [← hAe]; exact Or.inr h
  have hS : va_S A s.heap s.heap [] := va_S.rf
  have hP : va_P (dC, dI) vwCl [(h0, .inr (11, fs)), (a0, .inl (cZ, 8, .inl (fun _ => 0)))] s.heap := hP
  have hl := lv_entry ([.ref h0, .int p0]) (n := 2) (Nat.le_of_ble_eq_true rfl)
  rw [lg_entry_eq]
  generalize (lg_sl ([.ref h0, .int p0]) ++ List.replicate (2 - (lg_sl ([.ref h0, .int p0])).length) Slot.unset).toArray = ls at hl ⊢
  have hl : lv_has ls 2 [(0, .ref h0), (1, .int p0)] := hl
  refine lv_iload_n hx hb dX9_isMake_0 rfl (lv_at hl 1 rfl) ?_
  refine lv_if_lt (tgt := 23) hx hb dX9_isMake_1 (by decide) (fun c_1 => ?_) (fun c_1 => ?_)
  · refine lv_iconst (v := 0) hx hb dX9_isMake_23 (by decide) ?_
    have hP9 := hP.sub (ws' := []) [] rfl
    have hD9 := hD.sub (ws' := []) [] (by decide) rfl
    have hK9 := hK.sub (tys' := []) [] rfl
    exact W.zret (v := 0) hx hb hr rfl (fun t ht hW => ⟨⟨0, (), rfl, rfl, by rw [ht]; exact hP9, va_K.moved hW.alike hK9, hD9⟩, hS.F ht⟩) hS.2.2 dX9_isMake_24
  · refine lv_iload_n hx hb dX9_isMake_4 rfl (lv_at hl 1 rfl) ?_
    refine lv_bipush (v := 8) hx hb dX9_isMake_5 (by decide) ?_
    refine lv_icmp_ge (tgt := 23) hx hb dX9_isMake_7 (by decide) (fun c_2 => ?_) (fun c_2 => ?_)
    · refine lv_iconst (v := 0) hx hb dX9_isMake_23 (by decide) ?_
      have hP9 := hP.sub (ws' := []) [] rfl
      have hD9 := hD.sub (ws' := []) [] (by decide) rfl
      have hK9 := hK.sub (tys' := []) [] rfl
      exact W.zret (v := 0) hx hb hr rfl (fun t ht hW => ⟨⟨0, (), rfl, rfl, by rw [ht]; exact hP9, va_K.moved hW.alike hK9, hD9⟩, hS.F ht⟩) hS.2.2 dX9_isMake_24
    · refine lv_aload_n hx hb dX9_isMake_10 rfl (lv_at hl 0 rfl) ?_
      refine va_get (D := (dC, dI)) (ci := 11) (v := .ref a0) (C := RX9) (T := TX9) (N := 60) hx hb hts iRX9 hown hK hP 0 rfl rfl 0 (by decide) (hts (.fieldLink RX9 7 "RecordBenchModel" "told" "[Z") (by decide +kernel)) (fun _ h9 => h9) fh0 dX9_isMake_11 ?_
      refine lv_iload_n hx hb dX9_isMake_14 rfl (lv_at hl 1 rfl) ?_
      refine va_zald hx hb hK hP 1 0 rfl rfl (in_of 8 rfl (by decide) c_1 c_2) dX9_isMake_15 ?_
      refine W_toi (y := 0) (rfl) ?_
      refine lv_if_eq (tgt := 23) hx hb dX9_isMake_16 (by decide) (fun c_3 => ?_) (fun c_3 => absurd (by decide) c_3)
      refine lv_iconst (v := 0) hx hb dX9_isMake_23 (by decide) ?_
      have hP9 := hP.sub (ws' := []) [] rfl
      have hD9 := hD.sub (ws' := []) [] (by decide) rfl
      have hK9 := hK.sub (tys' := []) [] rfl
      exact W.zret (v := 0) hx hb hr rfl (fun t ht hW => ⟨⟨0, (), rfl, rfl, by rw [ht]; exact hP9, va_K.moved hW.alike hK9, hD9⟩, hS.F ht⟩) hS.2.2 dX9_isMake_24
def wp_X9_isField : List Cond := .code yX9_isField cX9_isField 3 (some .boolean) :: ([.methodLink RX9 239 yX9_isMake, .instanceMethod yX9_isMake, .selects RX9 yX9_isMake yX9_isMake, .initialized RX9, .code yX9_isMake cX9_isMake 2 (some .boolean), .fieldLink RX9 7 "RecordBenchModel" "told" "[Z"] ++ wsX90)
set_option maxRecDepth 20000 in
theorem gp_X9_isField_X9_isMake_239 : GoodIn wp_X9_isField (wsV RX9 239 RX9 yX9_isMake wp_X9_isMake) := goodIn_p _ [5] rfl (by decide +kernel)
set_option maxHeartbeats 4000000 in
set_option maxRecDepth 100000 in
theorem c_X9_isField (l : Launch) (dC : Nat → ClassId) (dI : Nat → Nat → Nat) (h0 : Nat) (fs : List Value) (hfs : fs.length = 60) (a0 : Nat) (cZ : ClassId) (fh0 : fs[0]? = some (.ref a0)) (p0 : Int32) (p1 : Int32) (sz : Nat) : Met l yX9_isField wp_X9_isField ({ frames := 1, cells := 0, slots := 0, locals := 25 }) (va_Pc [.ref h0, .int p0, .int p1] (Pr (dC, dI) [(cZ, .boolean)] [(h0, .inr (11, fs)), (a0, .inl (cZ, 8, .inl (fun _ => 0)))] sz)) (va_Qi (fun r : Int32 => (fun _ : Unit => r = 0)) (Bq (dC, dI) (fun _ : Unit => []) (fun _ : Unit => []) (va_A [(h0, .inr (11, fs)), (a0, .inl (cZ, 8, .inl (fun _ => 0)))] sz)) (va_A [(h0, .inr (11, fs)), (a0, .inl (cZ, 8, .inl (fun _ => 0)))] sz)) 0 0 (va_A [(h0, .inr (11, fs)), (a0, .inl (cZ, 8, .inl (fun _ => 0)))] sz) := by
  refine Met.ofW (cc := cX9_isField) (maxL := 3) (ret := (some .boolean)) (by decide) rfl ?_
  intro p e s m args below meth c s₁ B hml hv
  obtain ⟨rfl, hsz, hP, hK, hD0, hN, hZ⟩ := hv
  have hx := B.exec
  have hb := B.bytes
  have hr := B.returns
  have hts := atoms_spec (ws := wp_X9_isField) B.pre
  have hown : s.vm.findClass RX9 = some m.cls := findClass_of_methodNamed B.named
  have hlocks := B.notSynchronized
  subst hsz
  have hD := hD0.self (sz := s.heap.size)
  generalize hAe : va_A [(h0, .inr (11, fs)), (a0, .inl (cZ, 8, .inl (fun _ => 0)))] s.heap.size = A at hD hZ ⊢
  have hA : ∀ q : Nat, s.heap.size ≤ q → A q := fun q h => by rw [← hAe]; exact Or.inr h
  have hS : va_S A s.heap s.heap [] := va_S.rf
  have hP : va_P (dC, dI) vwCl [(h0, .inr (11, fs)), (a0, .inl (cZ, 8, .inl (fun _ => 0)))] s.heap := hP
  have hl := lv_entry ([.ref h0, .int p0, .int p1]) (n := 3) (Nat.le_of_ble_eq_true rfl)
  rw [lg_entry_eq]
  generalize (lg_sl ([.ref h0, .int p0, .int p1]) ++ List.replicate (3 - (lg_sl ([.ref h0, .int p0, .int p1])).length) Slot.unset).toArray = ls at hl ⊢
  have hl : lv_has ls 3 [(0, .ref h0), (1, .int p0), (2, .int p1)] := hl
  refine lv_aload_n hx hb dX9_isField_0 rfl (lv_at hl 0 rfl) ?_
  refine lv_iload_n hx hb dX9_isField_1 rfl (lv_at hl 1 rfl) ?_
  have hFc := va_free (wc := [(h0, .inr (11, fs)), (a0, .inl (cZ, 8, .inl (fun _ => 0)))]) hD hS hA [0, 1] rfl
  refine va_calli (va_runV (As := [.int p0]) (rest := []) ⟨hx, hb, hml, hown, hts⟩ (c_X9_isMake l dC dI h0 fs hfs a0 cZ fh0 p0 s.heap.size) (cwV 1 hts gp_X9_isField_X9_isMake_239 rfl rfl rfl (by decide +kernel) ⟨Nat.le_of_ble_eq_true rfl, Nat.le_of_ble_eq_true rfl⟩) ⟨Pr.blind _, va_recv hK hP (ci := 11) (q0 := 0) rfl rfl, fun U hU hW => ⟨rfl, Pr.at (hP.sub (ws' := [(h0, .inr (11, fs)), (a0, .inl (cZ, 8, .inl (fun _ => 0)))]) [0, 1] rfl) (hK.sub (tys' := [(cZ, .boolean)]) [0] rfl) (hD.sub (ws' := [(h0, .inr (11, fs)), (a0, .inl (cZ, 8, .inl (fun _ => 0)))]) [0, 1] (by decide) rfl) hN hZ hS hFc hU hW⟩⟩ rfl rfl hl.1 rfl (lv_room (Nat.le_of_ble_eq_true rfl)) dX9_isField_2 ⟨Nat.le_of_ble_eq_true rfl, Nat.le_of_ble_eq_true rfl⟩) hS (fun q _ h => hFc q h) hFc (fun r_1 u t H1 locs ht hvm hw_2 hB hz1 hk1 hS => ?_)
  obtain ⟨hP, hD, hK⟩ := Bq.join (wr := []) hB ht hvm hP hD [0, 1] [] rfl rfl (by decide) (by decide) hk1 hFc hK
  generalize H1 = H at hP hS ⊢
  have hP : va_P (dC, dI) vwCl [] H := hP
  have hD : va_D A [] := hD
  have hK : va_K (dC, dI) vwCl [(cZ, .boolean)] s := hK
  try dsimp only at hw_2
  have k_3 := hw_2
  refine W_toi (y := 0) k_3 ?_
  refine lv_if_eq (tgt := 36) hx hb dX9_isField_5 (by decide) (fun c_4 => ?_) (fun c_4 => absurd (by decide) c_4)
  refine lv_iconst (v := 0) hx hb dX9_isField_36 (by decide) ?_
  have hP9 := hP.sub (ws' := []) [] rfl
  have hD9 := hD.sub (ws' := []) [] (by decide) rfl
  have hK9 := hK.sub (tys' := []) [] rfl
  exact W.zret (v := 0) hx hb hr rfl (fun t ht hW => ⟨⟨0, (), rfl, rfl, by rw [ht]; exact hP9, va_K.moved hW.alike hK9, hD9⟩, hS.F ht⟩) hS.2.2 dX9_isField_37
def wp_X9_fieldP : List Cond := .code yX9_field_ cX9_field_ 5 (some .int) :: ([.methodLink RX9 242 yX9_isField, .instanceMethod yX9_isField, .selects RX9 yX9_isField yX9_isField, .initialized RX9, .code yX9_isField cX9_isField 3 (some .boolean), .methodLink RX9 239 yX9_isMake, .instanceMethod yX9_isMake, .selects RX9 yX9_isMake yX9_isMake, .code yX9_isMake cX9_isMake 2 (some .boolean), .fieldLink RX9 7 "RecordBenchModel" "told" "[Z"] ++ wsX90)
set_option maxRecDepth 20000 in
theorem gp_X9_fieldP_X9_isField_242 : GoodIn wp_X9_fieldP (wsV RX9 242 RX9 yX9_isField wp_X9_isField) := goodIn_p _ [5, 9] rfl (by decide +kernel)
set_option maxHeartbeats 4000000 in
set_option maxRecDepth 100000 in
theorem c_X9_fieldP (l : Launch) (dC : Nat → ClassId) (dI : Nat → Nat → Nat) (h0 : Nat) (fs : List Value) (hfs : fs.length = 60) (a0 : Nat) (cZ : ClassId) (fh0 : fs[0]? = some (.ref a0)) (p0 : Int32) (p1 : Int32) (p2 : Int32) (sz : Nat) : Met l yX9_field_ wp_X9_fieldP ({ frames := 2, cells := 0, slots := 0, locals := 51 }) (va_Pc [.ref h0, .int p0, .int p1, .int p2] (Pr (dC, dI) [(cZ, .boolean)] [(h0, .inr (11, fs)), (a0, .inl (cZ, 8, .inl (fun _ => 0)))] sz)) (va_Qi (fun r : Int32 => (fun _ : Unit => r = -1)) (Bq (dC, dI) (fun _ : Unit => []) (fun _ : Unit => []) (va_A [(h0, .inr (11, fs)), (a0, .inl (cZ, 8, .inl (fun _ => 0)))] sz)) (va_A [(h0, .inr (11, fs)), (a0, .inl (cZ, 8, .inl (fun _ => 0)))] sz)) 0 0 (va_A [(h0, .inr (11, fs)), (a0, .inl (cZ, 8, .inl (fun _ => 0)))] sz) := by
  refine Met.ofW (cc := cX9_field_) (maxL := 5) (ret := (some .int)) (by decide) rfl ?_
  intro p e s m args below meth c s₁ B hml hv
  obtain ⟨rfl, hsz, hP, hK, hD0, hN, hZ⟩ := hv
  have hx := B.exec
  have hb := B.bytes
  have hr := B.returns
  have hts := atoms_spec (ws := wp_X9_fieldP) B.pre
  have hown : s.vm.findClass RX9 = some m.cls := findClass_of_methodNamed B.named
  have hlocks := B.notSynchronized
  subst hsz
  have hD := hD0.self (sz := s.heap.size)
  generalize hAe : va_A [(h0, .inr (11, fs)), (a0, .inl (cZ, 8, .inl (fun _ => 0)))] s.heap.size = A at hD hZ ⊢
  have hA : ∀ q : Nat, s.heap.size ≤ q → A q := fun q h => by rw [← hAe]; exact Or.inr h
  have hS : va_S A s.heap s.heap [] := va_S.rf
  have hP : va_P (dC, dI) vwCl [(h0, .inr (11, fs)), (a0, .inl (cZ, 8, .inl (fun _ => 0)))] s.heap := hP
  have hl := lv_entry ([.ref h0, .int p0, .int p1, .int p2]) (n := 5) (Nat.le_of_ble_eq_true rfl)
  rw [lg_entry_eq]
  generalize (lg_sl ([.ref h0, .int p0, .int p1, .int p2]) ++ List.replicate (5 - (lg_sl ([.ref h0, .int p0, .int p1, .int p2])).length) Slot.unset).toArray = ls at hl ⊢
  have hl : lv_has ls 5 [(0, .ref h0), (1, .int p0), (2, .int p1), (3, .int p2)] := hl
  refine lv_aload_n hx hb dX9_field__0 rfl (lv_at hl 0 rfl) ?_
  refine lv_iload_n hx hb dX9_field__1 rfl (lv_at hl 1 rfl) ?_
  refine lv_iload_n hx hb dX9_field__2 rfl (lv_at hl 2 rfl) ?_
  have hFc := va_free (wc := [(h0, .inr (11, fs)), (a0, .inl (cZ, 8, .inl (fun _ => 0)))]) hD hS hA [0, 1] rfl
  refine va_calli (va_runV (As := [.int p0, .int p1]) (rest := []) ⟨hx, hb, hml, hown, hts⟩ (c_X9_isField l dC dI h0 fs hfs a0 cZ fh0 p0 p1 s.heap.size) (cwV 2 hts gp_X9_fieldP_X9_isField_242 rfl rfl rfl (by decide +kernel) ⟨Nat.le_of_ble_eq_true rfl, Nat.le_of_ble_eq_true rfl⟩) ⟨Pr.blind _, va_recv hK hP (ci := 11) (q0 := 0) rfl rfl, fun U hU hW => ⟨rfl, Pr.at (hP.sub (ws' := [(h0, .inr (11, fs)), (a0, .inl (cZ, 8, .inl (fun _ => 0)))]) [0, 1] rfl) (hK.sub (tys' := [(cZ, .boolean)]) [0] rfl) (hD.sub (ws' := [(h0, .inr (11, fs)), (a0, .inl (cZ, 8, .inl (fun _ => 0)))]) [0, 1] (by decide) rfl) hN hZ hS hFc hU hW⟩⟩ rfl rfl hl.1 rfl (lv_room (Nat.le_of_ble_eq_true rfl)) dX9_field__3 ⟨Nat.le_of_ble_eq_true rfl, Nat.le_of_ble_eq_true rfl⟩) hS (fun q _ h => hFc q h) hFc (fun r_1 u t H1 locs ht hvm hw_2 hB hz1 hk1 hS => ?_)
  obtain ⟨hP, hD, hK⟩ := Bq.join (wr := []) hB ht hvm hP hD [0, 1] [] rfl rfl (by decide) (by decide) hk1 hFc hK
  generalize H1 = H at hP hS ⊢
  have hP : va_P (dC, dI) vwCl [] H := hP
  have hD : va_D A [] := hD
  have hK : va_K (dC, dI) vwCl [(cZ, .boolean)] s := hK
  try dsimp only at hw_2
  have k_3 := hw_2
  refine W_toi (y := 0) k_3 ?_
  refine lv_if_ne (tgt := 11) hx hb dX9_field__6 (by decide) (fun c_4 => absurd (by decide) c_4) (fun c_4 => ?_)
  refine lv_iconst (v := (-1)) hx hb dX9_field__9 (by decide) ?_
  have hP9 := hP.sub (ws' := []) [] rfl
  have hD9 := hD.sub (ws' := []) [] (by decide) rfl
  have hK9 := hK.sub (tys' := []) [] rfl
  exact W.iret (v := (-1)) hx hb hr (fun t ht hW => ⟨⟨(-1), (), rfl, rfl, by rw [ht]; exact hP9, va_K.moved hW.alike hK9, hD9⟩, hS.F ht⟩) hS.2.2 dX9_field__10
def wp_X9_plain : List Cond := .code yX9_plain cX9_plain 3 (some .long) :: ([.methodLink RX9 242 yX9_isField, .instanceMethod yX9_isField, .selects RX9 yX9_isField yX9_isField, .initialized RX9, .code yX9_isField cX9_isField 3 (some .boolean), .methodLink RX9 239 yX9_isMake, .instanceMethod yX9_isMake, .selects RX9 yX9_isMake yX9_isMake, .code yX9_isMake cX9_isMake 2 (some .boolean), .fieldLink RX9 7 "RecordBenchModel" "told" "[Z"] ++ wsX90)
set_option maxRecDepth 20000 in
theorem gp_X9_plain_X9_isField_242 : GoodIn wp_X9_plain (wsV RX9 242 RX9 yX9_isField wp_X9_isField) := goodIn_p _ [5, 9] rfl (by decide +kernel)
set_option maxHeartbeats 4000000 in
set_option maxRecDepth 100000 in
theorem c_X9_plain (l : Launch) (dC : Nat → ClassId) (dI : Nat → Nat → Nat) (h0 : Nat) (fs : List Value) (hfs : fs.length = 60) (a0 : Nat) (cZ : ClassId) (fh0 : fs[0]? = some (.ref a0)) (p0 : Int32) (p1 : Int32) (sz : Nat) : Met l yX9_plain wp_X9_plain ({ frames := 2, cells := 0, slots := 0, locals := 51 }) (va_Pc [.ref h0, .int p0, .int p1] (Pr (dC, dI) [(cZ, .boolean)] [(h0, .inr (11, fs)), (a0, .inl (cZ, 8, .inl (fun _ => 0)))] sz)) (va_Ql (fun r : Int64 => (fun _ : Unit => r = 0)) (Bq (dC, dI) (fun _ : Unit => []) (fun _ : Unit => []) (va_A [(h0, .inr (11, fs)), (a0, .inl (cZ, 8, .inl (fun _ => 0)))] sz)) (va_A [(h0, .inr (11, fs)), (a0, .inl (cZ, 8, .inl (fun _ => 0)))] sz)) 0 0 (va_A [(h0, .inr (11, fs)), (a0, .inl (cZ, 8, .inl (fun _ => 0)))] sz) := by
  refine Met.ofW (cc := cX9_plain) (maxL := 3) (ret := (some .long)) (by decide) rfl ?_
  intro p e s m args below meth c s₁ B hml hv
  obtain ⟨rfl, hsz, hP, hK, hD0, hN, hZ⟩ := hv
  have hx := B.exec
  have hb := B.bytes
  have hr := B.returns
  have hts := atoms_spec (ws := wp_X9_plain) B.pre
  have hown : s.vm.findClass RX9 = some m.cls := findClass_of_methodNamed B.named
  have hlocks := B.notSynchronized
  subst hsz
  have hD := hD0.self (sz := s.heap.size)
  generalize hAe : va_A [(h0, .inr (11, fs)), (a0, .inl (cZ, 8, .inl (fun _ => 0)))] s.heap.size = A at hD hZ ⊢
  have hA : ∀ q : Nat, s.heap.size ≤ q → A q := fun q h => by rw [← hAe]; exact Or.inr h
  have hS : va_S A s.heap s.heap [] := va_S.rf
  have hP : va_P (dC, dI) vwCl [(h0, .inr (11, fs)), (a0, .inl (cZ, 8, .inl (fun _ => 0)))] s.heap := hP
  have hl := lv_entry ([.ref h0, .int p0, .int p1]) (n := 3) (Nat.le_of_ble_eq_true rfl)
  rw [lg_entry_eq]
  generalize (lg_sl ([.ref h0, .int p0, .int p1]) ++ List.replicate (3 - (lg_sl ([.ref h0, .int p0, .int p1])).length) Slot.unset).toArray = ls at hl ⊢
  have hl : lv_has ls 3 [(0, .ref h0), (1, .int p0), (2, .int p1)] := hl
  refine lv_aload_n hx hb dX9_plain_0 rfl (lv_at hl 0 rfl) ?_
  refine lv_iload_n hx hb dX9_plain_1 rfl (lv_at hl 1 rfl) ?_
  refine lv_iload_n hx hb dX9_plain_2 rfl (lv_at hl 2 rfl) ?_
  have hFc := va_free (wc := [(h0, .inr (11, fs)), (a0, .inl (cZ, 8, .inl (fun _ => 0)))]) hD hS hA [0, 1] rfl
  refine va_calli (va_runV (As := [.int p0, .int p1]) (rest := []) ⟨hx, hb, hml, hown, hts⟩ (c_X9_isField l dC dI h0 fs hfs a0 cZ fh0 p0 p1 s.heap.size) (cwV 2 hts gp_X9_plain_X9_isField_242 rfl rfl rfl (by decide +kernel) ⟨Nat.le_of_ble_eq_true rfl, Nat.le_of_ble_eq_true rfl⟩) ⟨Pr.blind _, va_recv hK hP (ci := 11) (q0 := 0) rfl rfl, fun U hU hW => ⟨rfl, Pr.at (hP.sub (ws' := [(h0, .inr (11, fs)), (a0, .inl (cZ, 8, .inl (fun _ => 0)))]) [0, 1] rfl) (hK.sub (tys' := [(cZ, .boolean)]) [0] rfl) (hD.sub (ws' := [(h0, .inr (11, fs)), (a0, .inl (cZ, 8, .inl (fun _ => 0)))]) [0, 1] (by decide) rfl) hN hZ hS hFc hU hW⟩⟩ rfl rfl hl.1 rfl (lv_room (Nat.le_of_ble_eq_true rfl)) dX9_plain_3 ⟨Nat.le_of_ble_eq_true rfl, Nat.le_of_ble_eq_true rfl⟩) hS (fun q _ h => hFc q h) hFc (fun r_1 u t H1 locs ht hvm hw_2 hB hz1 hk1 hS => ?_)
  obtain ⟨hP, hD, hK⟩ := Bq.join (wr := []) hB ht hvm hP hD [0, 1] [] rfl rfl (by decide) (by decide) hk1 hFc hK
  generalize H1 = H at hP hS ⊢
  have hP : va_P (dC, dI) vwCl [] H := hP
  have hD : va_D A [] := hD
  have hK : va_K (dC, dI) vwCl [(cZ, .boolean)] s := hK
  try dsimp only at hw_2
  have k_3 := hw_2
  refine W_toi (y := 0) k_3 ?_
  refine lv_if_eq (tgt := 48) hx hb dX9_plain_6 (by decide) (fun c_4 => ?_) (fun c_4 => absurd (by decide) c_4)
  refine lv_lconst (v := 0) hx hb dX9_plain_48 (by decide) ?_
  have hP9 := hP.sub (ws' := []) [] rfl
  have hD9 := hD.sub (ws' := []) [] (by decide) rfl
  have hK9 := hK.sub (tys' := []) [] rfl
  exact W.lret (v := 0) hx hb hr (fun t ht hW => ⟨⟨0, (), rfl, rfl, by rw [ht]; exact hP9, va_K.moved hW.alike hK9, hD9⟩, hS.F ht⟩) hS.2.2 dX9_plain_49
def wp_X9_set : List Cond := .code yX9_set cX9_set 6 (some .int) :: ([.methodLink RX9 249 yX9_isRecord, .static yX9_isRecord, .initialized RX9, .methodLink RX9 239 yX9_isMake, .instanceMethod yX9_isMake, .selects RX9 yX9_isMake yX9_isMake, .code yX9_isRecord cX9_isRecord 1 (some .boolean), .code yX9_isMake cX9_isMake 2 (some .boolean), .fieldLink RX9 7 "RecordBenchModel" "told" "[Z"] ++ wsX90)
set_option maxRecDepth 20000 in
theorem gp_X9_set_X9_isRecord_249 : GoodIn wp_X9_set (wsS RX9 249 yX9_isRecord wp_X9_isRecord) := goodIn_p _ [7] rfl (by decide +kernel)
set_option maxRecDepth 20000 in
theorem gp_X9_set_X9_isMake_239 : GoodIn wp_X9_set (wsV RX9 239 RX9 yX9_isMake wp_X9_isMake) := goodIn_p _ [8] rfl (by decide +kernel)
set_option maxHeartbeats 4000000 in
set_option maxRecDepth 100000 in
theorem c_X9_set (l : Launch) (dC : Nat → ClassId) (dI : Nat → Nat → Nat) (h0 : Nat) (fs : List Value) (hfs : fs.length = 60) (a0 : Nat) (cZ : ClassId) (fh0 : fs[0]? = some (.ref a0)) (p0 : Int32) (p1 : Int32) (p2 : Int32) (pl : Int64) (sz : Nat) : Met l yX9_set wp_X9_set ({ frames := 1, cells := 0, slots := 0, locals := 25 }) (va_Pc [.ref h0, .int p0, .int p1, .int p2, .long pl] (Pr (dC, dI) [(cZ, .boolean)] [(h0, .inr (11, fs)), (a0, .inl (cZ, 8, .inl (fun _ => 0)))] sz)) (va_Qi (fun r : Int32 => (fun _ : Unit => r = -1)) (Bq (dC, dI) (fun _ : Unit => []) (fun _ : Unit => []) (va_A [(h0, .inr (11, fs)), (a0, .inl (cZ, 8, .inl (fun _ => 0)))] sz)) (va_A [(h0, .inr (11, fs)), (a0, .inl (cZ, 8, .inl (fun _ => 0)))] sz)) 0 0 (va_A [(h0, .inr (11, fs)), (a0, .inl (cZ, 8, .inl (fun _ => 0)))] sz) := by
  refine Met.ofW (cc := cX9_set) (maxL := 6) (ret := (some .int)) (by decide) rfl ?_
  intro p e s m args below meth c s₁ B hml hv
  obtain ⟨rfl, hsz, hP, hK, hD0, hN, hZ⟩ := hv
  have hx := B.exec
  have hb := B.bytes
  have hr := B.returns
  have hts := atoms_spec (ws := wp_X9_set) B.pre
  have hown : s.vm.findClass RX9 = some m.cls := findClass_of_methodNamed B.named
  have hlocks := B.notSynchronized
  subst hsz
  have hD := hD0.self (sz := s.heap.size)
  generalize hAe : va_A [(h0, .inr (11, fs)), (a0, .inl (cZ, 8, .inl (fun _ => 0)))] s.heap.size = A at hD hZ ⊢
  have hA : ∀ q : Nat, s.heap.size ≤ q → A q := fun q h => by rw [← hAe]; exact Or.inr h
  have hS : va_S A s.heap s.heap [] := va_S.rf
  have hP : va_P (dC, dI) vwCl [(h0, .inr (11, fs)), (a0, .inl (cZ, 8, .inl (fun _ => 0)))] s.heap := hP
  have hl := lv_entry ([.ref h0, .int p0, .int p1, .int p2, .long pl]) (n := 6) (Nat.le_of_ble_eq_true rfl)
  rw [lg_entry_eq]
  generalize (lg_sl ([.ref h0, .int p0, .int p1, .int p2, .long pl]) ++ List.replicate (6 - (lg_sl ([.ref h0, .int p0, .int p1, .int p2, .long pl])).length) Slot.unset).toArray = ls at hl ⊢
  have hl : lv_has ls 6 [(0, .ref h0), (1, .int p0), (2, .int p1), (3, .int p2), (4, .long pl)] := hl
  refine lv_iload_n hx hb dX9_set_0 rfl (lv_at hl 1 rfl) ?_
  have hFc := va_free (wc := []) hD hS hA [] rfl
  refine va_calli (va_runS (As := [.int p0]) (rest := []) ⟨hx, hb, hml, hown, hts⟩ (c_X9_isRecord l dC dI p0 s.heap.size) (cwS 1 hts gp_X9_set_X9_isRecord_249 rfl rfl rfl (by decide +kernel) ⟨Nat.le_of_ble_eq_true rfl, Nat.le_of_ble_eq_true rfl⟩) ⟨Pr.blind _, fun U hU hW => ⟨rfl, Pr.at (hP.sub (ws' := []) [] rfl) (hK.sub (tys' := []) [] rfl) (hD.sub (ws' := []) [] (by decide) rfl) hN hZ hS hFc hU hW⟩⟩ rfl rfl hl.1 rfl (lv_room (Nat.le_of_ble_eq_true rfl)) dX9_set_1 ⟨Nat.le_of_ble_eq_true rfl, Nat.le_of_ble_eq_true rfl⟩) hS (fun q _ h => hFc q h) hFc (fun r_1 u t H1 locs ht hvm hw_2 hB hz1 hk1 hS => ?_)
  obtain ⟨hP, hD, hK⟩ := Bq.join (wr := [(h0, .inr (11, fs)), (a0, .inl (cZ, 8, .inl (fun _ => 0)))]) hB ht hvm hP hD [] [0, 1] rfl rfl (by decide) (by decide) hk1 hFc hK
  generalize H1 = H at hP hS ⊢
  have hP : va_P (dC, dI) vwCl [(h0, .inr (11, fs)), (a0, .inl (cZ, 8, .inl (fun _ => 0)))] H := hP
  have hD : va_D A [(h0, .inr (11, fs)), (a0, .inl (cZ, 8, .inl (fun _ => 0)))] := hD
  have hK : va_K (dC, dI) vwCl [(cZ, .boolean)] s := hK
  try dsimp only at hw_2
  have k_3 := hw_2
  rcases k_3 with ⟨ho, rfl⟩ | ⟨ho, rfl⟩
  · refine W.eq (g2 := F0 m 4 ls [.int 0]) rfl ?_
    refine lv_if_eq (tgt := 39) hx hb dX9_set_4 (by decide) (fun c_4 => ?_) (fun c_4 => absurd (by decide) c_4)
    refine lv_iconst (v := (-1)) hx hb dX9_set_39 (by decide) ?_
    have hP9 := hP.sub (ws' := []) [] rfl
    have hD9 := hD.sub (ws' := []) [] (by decide) rfl
    have hK9 := hK.sub (tys' := []) [] rfl
    exact W.iret (v := (-1)) hx hb hr (fun t ht hW => ⟨⟨(-1), (), rfl, rfl, by rw [ht]; exact hP9, va_K.moved hW.alike hK9, hD9⟩, hS.F ht⟩) hS.2.2 dX9_set_40
  · refine W.eq (g2 := F0 m 4 ls [.int 1]) rfl ?_
    refine lv_if_eq (tgt := 39) hx hb dX9_set_4 (by decide) (fun c_5 => absurd c_5 (by decide)) (fun c_5 => ?_)
    refine lv_aload_n hx hb dX9_set_7 rfl (lv_at hl 0 rfl) ?_
    refine lv_iload_n hx hb dX9_set_8 rfl (lv_at hl 2 rfl) ?_
    have hFc := va_free (wc := [(h0, .inr (11, fs)), (a0, .inl (cZ, 8, .inl (fun _ => 0)))]) hD hS hA [0, 1] rfl
    refine va_calli (va_runV (As := [.int p1]) (rest := []) ⟨hx, hb, hml, hown, hts⟩ (c_X9_isMake l dC dI h0 fs hfs a0 cZ fh0 p1 H.size) (cwV 1 hts gp_X9_set_X9_isMake_239 rfl rfl rfl (by decide +kernel) ⟨Nat.le_of_ble_eq_true rfl, Nat.le_of_ble_eq_true rfl⟩) ⟨Pr.blind _, va_recv hK hP (ci := 11) (q0 := 0) rfl rfl, fun U hU hW => ⟨rfl, Pr.at (hP.sub (ws' := [(h0, .inr (11, fs)), (a0, .inl (cZ, 8, .inl (fun _ => 0)))]) [0, 1] rfl) (hK.sub (tys' := [(cZ, .boolean)]) [0] rfl) (hD.sub (ws' := [(h0, .inr (11, fs)), (a0, .inl (cZ, 8, .inl (fun _ => 0)))]) [0, 1] (by decide) rfl) hN hZ hS hFc hU hW⟩⟩ rfl rfl hl.1 rfl (lv_room (Nat.le_of_ble_eq_true rfl)) dX9_set_9 ⟨Nat.le_of_ble_eq_true rfl, Nat.le_of_ble_eq_true rfl⟩) hS (fun q _ h => hFc q h) hFc (fun r_6 u t H1 locs ht hvm hw_7 hB hz1 hk1 hS => ?_)
    obtain ⟨hP, hD, hK⟩ := Bq.join (wr := []) hB ht hvm hP hD [0, 1] [] rfl rfl (by decide) (by decide) hk1 hFc hK
    generalize H1 = H at hP hS ⊢
    have hP : va_P (dC, dI) vwCl [] H := hP
    have hD : va_D A [] := hD
    have hK : va_K (dC, dI) vwCl [(cZ, .boolean)] s := hK
    try dsimp only at hw_7
    have k_8 := hw_7
    refine W_toi (y := 0) k_8 ?_
    refine lv_if_eq (tgt := 39) hx hb dX9_set_12 (by decide) (fun c_9 => ?_) (fun c_9 => absurd (by decide) c_9)
    refine lv_iconst (v := (-1)) hx hb dX9_set_39 (by decide) ?_
    have hP9 := hP.sub (ws' := []) [] rfl
    have hD9 := hD.sub (ws' := []) [] (by decide) rfl
    have hK9 := hK.sub (tys' := []) [] rfl
    exact W.iret (v := (-1)) hx hb hr (fun t ht hW => ⟨⟨(-1), (), rfl, rfl, by rw [ht]; exact hP9, va_K.moved hW.alike hK9, hD9⟩, hS.F ht⟩) hS.2.2 dX9_set_40
def wp_X9_nest : List Cond := .code yX9_nest cX9_nest 7 (some .int) :: ([.methodLink RX9 249 yX9_isRecord, .static yX9_isRecord, .initialized RX9, .methodLink RX9 239 yX9_isMake, .instanceMethod yX9_isMake, .selects RX9 yX9_isMake yX9_isMake, .code yX9_isRecord cX9_isRecord 1 (some .boolean), .code yX9_isMake cX9_isMake 2 (some .boolean), .fieldLink RX9 7 "RecordBenchModel" "told" "[Z"] ++ wsX90)
set_option maxRecDepth 20000 in
theorem gp_X9_nest_X9_isRecord_249 : GoodIn wp_X9_nest (wsS RX9 249 yX9_isRecord wp_X9_isRecord) := goodIn_p _ [7] rfl (by decide +kernel)
set_option maxRecDepth 20000 in
theorem gp_X9_nest_X9_isMake_239 : GoodIn wp_X9_nest (wsV RX9 239 RX9 yX9_isMake wp_X9_isMake) := goodIn_p _ [8] rfl (by decide +kernel)
set_option maxHeartbeats 4000000 in
set_option maxRecDepth 100000 in
theorem c_X9_nest (l : Launch) (dC : Nat → ClassId) (dI : Nat → Nat → Nat) (h0 : Nat) (fs : List Value) (hfs : fs.length = 60) (a0 : Nat) (cZ : ClassId) (fh0 : fs[0]? = some (.ref a0)) (p0 : Int32) (p1 : Int32) (p2 : Int32) (p3 : Int32) (sz : Nat) : Met l yX9_nest wp_X9_nest ({ frames := 1, cells := 0, slots := 0, locals := 25 }) (va_Pc [.ref h0, .int p0, .int p1, .int p2, .int p3] (Pr (dC, dI) [(cZ, .boolean)] [(h0, .inr (11, fs)), (a0, .inl (cZ, 8, .inl (fun _ => 0)))] sz)) (va_Qi (fun r : Int32 => (fun _ : Unit => r = -1)) (Bq (dC, dI) (fun _ : Unit => []) (fun _ : Unit => []) (va_A [(h0, .inr (11, fs)), (a0, .inl (cZ, 8, .inl (fun _ => 0)))] sz)) (va_A [(h0, .inr (11, fs)), (a0, .inl (cZ, 8, .inl (fun _ => 0)))] sz)) 0 0 (va_A [(h0, .inr (11, fs)), (a0, .inl (cZ, 8, .inl (fun _ => 0)))] sz) := by
  refine Met.ofW (cc := cX9_nest) (maxL := 7) (ret := (some .int)) (by decide) rfl ?_
  intro p e s m args below meth c s₁ B hml hv
  obtain ⟨rfl, hsz, hP, hK, hD0, hN, hZ⟩ := hv
  have hx := B.exec
  have hb := B.bytes
  have hr := B.returns
  have hts := atoms_spec (ws := wp_X9_nest) B.pre
  have hown : s.vm.findClass RX9 = some m.cls := findClass_of_methodNamed B.named
  have hlocks := B.notSynchronized
  subst hsz
  have hD := hD0.self (sz := s.heap.size)
  generalize hAe : va_A [(h0, .inr (11, fs)), (a0, .inl (cZ, 8, .inl (fun _ => 0)))] s.heap.size = A at hD hZ ⊢
  have hA : ∀ q : Nat, s.heap.size ≤ q → A q := fun q h => by rw [← hAe]; exact Or.inr h
  have hS : va_S A s.heap s.heap [] := va_S.rf
  have hP : va_P (dC, dI) vwCl [(h0, .inr (11, fs)), (a0, .inl (cZ, 8, .inl (fun _ => 0)))] s.heap := hP
  have hl := lv_entry ([.ref h0, .int p0, .int p1, .int p2, .int p3]) (n := 7) (Nat.le_of_ble_eq_true rfl)
  rw [lg_entry_eq]
  generalize (lg_sl ([.ref h0, .int p0, .int p1, .int p2, .int p3]) ++ List.replicate (7 - (lg_sl ([.ref h0, .int p0, .int p1, .int p2, .int p3])).length) Slot.unset).toArray = ls at hl ⊢
  have hl : lv_has ls 7 [(0, .ref h0), (1, .int p0), (2, .int p1), (3, .int p2), (4, .int p3)] := hl
  refine lv_iload_n hx hb dX9_nest_0 rfl (lv_at hl 1 rfl) ?_
  have hFc := va_free (wc := []) hD hS hA [] rfl
  refine va_calli (va_runS (As := [.int p0]) (rest := []) ⟨hx, hb, hml, hown, hts⟩ (c_X9_isRecord l dC dI p0 s.heap.size) (cwS 1 hts gp_X9_nest_X9_isRecord_249 rfl rfl rfl (by decide +kernel) ⟨Nat.le_of_ble_eq_true rfl, Nat.le_of_ble_eq_true rfl⟩) ⟨Pr.blind _, fun U hU hW => ⟨rfl, Pr.at (hP.sub (ws' := []) [] rfl) (hK.sub (tys' := []) [] rfl) (hD.sub (ws' := []) [] (by decide) rfl) hN hZ hS hFc hU hW⟩⟩ rfl rfl hl.1 rfl (lv_room (Nat.le_of_ble_eq_true rfl)) dX9_nest_1 ⟨Nat.le_of_ble_eq_true rfl, Nat.le_of_ble_eq_true rfl⟩) hS (fun q _ h => hFc q h) hFc (fun r_1 u t H1 locs ht hvm hw_2 hB hz1 hk1 hS => ?_)
  obtain ⟨hP, hD, hK⟩ := Bq.join (wr := [(h0, .inr (11, fs)), (a0, .inl (cZ, 8, .inl (fun _ => 0)))]) hB ht hvm hP hD [] [0, 1] rfl rfl (by decide) (by decide) hk1 hFc hK
  generalize H1 = H at hP hS ⊢
  have hP : va_P (dC, dI) vwCl [(h0, .inr (11, fs)), (a0, .inl (cZ, 8, .inl (fun _ => 0)))] H := hP
  have hD : va_D A [(h0, .inr (11, fs)), (a0, .inl (cZ, 8, .inl (fun _ => 0)))] := hD
  have hK : va_K (dC, dI) vwCl [(cZ, .boolean)] s := hK
  try dsimp only at hw_2
  have k_3 := hw_2
  rcases k_3 with ⟨ho, rfl⟩ | ⟨ho, rfl⟩
  · refine W.eq (g2 := F0 m 4 ls [.int 0]) rfl ?_
    refine lv_if_eq (tgt := 54) hx hb dX9_nest_4 (by decide) (fun c_4 => ?_) (fun c_4 => absurd (by decide) c_4)
    refine lv_iconst (v := (-1)) hx hb dX9_nest_54 (by decide) ?_
    have hP9 := hP.sub (ws' := []) [] rfl
    have hD9 := hD.sub (ws' := []) [] (by decide) rfl
    have hK9 := hK.sub (tys' := []) [] rfl
    exact W.iret (v := (-1)) hx hb hr (fun t ht hW => ⟨⟨(-1), (), rfl, rfl, by rw [ht]; exact hP9, va_K.moved hW.alike hK9, hD9⟩, hS.F ht⟩) hS.2.2 dX9_nest_55
  · refine W.eq (g2 := F0 m 4 ls [.int 1]) rfl ?_
    refine lv_if_eq (tgt := 54) hx hb dX9_nest_4 (by decide) (fun c_5 => absurd c_5 (by decide)) (fun c_5 => ?_)
    refine lv_iload hx hb dX9_nest_7 (lv_at hl 4 rfl) ?_
    have hFc := va_free (wc := []) hD hS hA [] rfl
    refine va_calli (va_runS (As := [.int p3]) (rest := []) ⟨hx, hb, hml, hown, hts⟩ (c_X9_isRecord l dC dI p3 H.size) (cwS 1 hts gp_X9_nest_X9_isRecord_249 rfl rfl rfl (by decide +kernel) ⟨Nat.le_of_ble_eq_true rfl, Nat.le_of_ble_eq_true rfl⟩) ⟨Pr.blind _, fun U hU hW => ⟨rfl, Pr.at (hP.sub (ws' := []) [] rfl) (hK.sub (tys' := []) [] rfl) (hD.sub (ws' := []) [] (by decide) rfl) hN hZ hS hFc hU hW⟩⟩ rfl rfl hl.1 rfl (lv_room (Nat.le_of_ble_eq_true rfl)) dX9_nest_9 ⟨Nat.le_of_ble_eq_true rfl, Nat.le_of_ble_eq_true rfl⟩) hS (fun q _ h => hFc q h) hFc (fun r_6 u t H1 locs ht hvm hw_7 hB hz1 hk1 hS => ?_)
    obtain ⟨hP, hD, hK⟩ := Bq.join (wr := [(h0, .inr (11, fs)), (a0, .inl (cZ, 8, .inl (fun _ => 0)))]) hB ht hvm hP hD [] [0, 1] rfl rfl (by decide) (by decide) hk1 hFc hK
    generalize H1 = H at hP hS ⊢
    have hP : va_P (dC, dI) vwCl [(h0, .inr (11, fs)), (a0, .inl (cZ, 8, .inl (fun _ => 0)))] H := hP
    have hD : va_D A [(h0, .inr (11, fs)), (a0, .inl (cZ, 8, .inl (fun _ => 0)))] := hD
    have hK : va_K (dC, dI) vwCl [(cZ, .boolean)] s := hK
    try dsimp only at hw_7
    have k_8 := hw_7
    rcases k_8 with ⟨ho, rfl⟩ | ⟨ho, rfl⟩
    · refine W.eq (g2 := F0 m 12 ls [.int 0]) rfl ?_
      refine lv_if_eq (tgt := 54) hx hb dX9_nest_12 (by decide) (fun c_9 => ?_) (fun c_9 => absurd (by decide) c_9)
      refine lv_iconst (v := (-1)) hx hb dX9_nest_54 (by decide) ?_
      have hP9 := hP.sub (ws' := []) [] rfl
      have hD9 := hD.sub (ws' := []) [] (by decide) rfl
      have hK9 := hK.sub (tys' := []) [] rfl
      exact W.iret (v := (-1)) hx hb hr (fun t ht hW => ⟨⟨(-1), (), rfl, rfl, by rw [ht]; exact hP9, va_K.moved hW.alike hK9, hD9⟩, hS.F ht⟩) hS.2.2 dX9_nest_55
    · refine W.eq (g2 := F0 m 12 ls [.int 1]) rfl ?_
      refine lv_if_eq (tgt := 54) hx hb dX9_nest_12 (by decide) (fun c_10 => absurd c_10 (by decide)) (fun c_10 => ?_)
      refine lv_iload_n hx hb dX9_nest_15 rfl (lv_at hl 1 rfl) ?_
      refine lv_iload hx hb dX9_nest_16 (lv_at hl 4 rfl) ?_
      refine lv_icmp_eq (tgt := 54) hx hb dX9_nest_18 (by decide) (fun c_11 => ?_) (fun c_11 => ?_)
      · refine lv_iconst (v := (-1)) hx hb dX9_nest_54 (by decide) ?_
        have hP9 := hP.sub (ws' := []) [] rfl
        have hD9 := hD.sub (ws' := []) [] (by decide) rfl
        have hK9 := hK.sub (tys' := []) [] rfl
        exact W.iret (v := (-1)) hx hb hr (fun t ht hW => ⟨⟨(-1), (), rfl, rfl, by rw [ht]; exact hP9, va_K.moved hW.alike hK9, hD9⟩, hS.F ht⟩) hS.2.2 dX9_nest_55
      · refine lv_aload_n hx hb dX9_nest_21 rfl (lv_at hl 0 rfl) ?_
        refine lv_iload_n hx hb dX9_nest_22 rfl (lv_at hl 2 rfl) ?_
        have hFc := va_free (wc := [(h0, .inr (11, fs)), (a0, .inl (cZ, 8, .inl (fun _ => 0)))]) hD hS hA [0, 1] rfl
        refine va_calli (va_runV (As := [.int p1]) (rest := []) ⟨hx, hb, hml, hown, hts⟩ (c_X9_isMake l dC dI h0 fs hfs a0 cZ fh0 p1 H.size) (cwV 1 hts gp_X9_nest_X9_isMake_239 rfl rfl rfl (by decide +kernel) ⟨Nat.le_of_ble_eq_true rfl, Nat.le_of_ble_eq_true rfl⟩) ⟨Pr.blind _, va_recv hK hP (ci := 11) (q0 := 0) rfl rfl, fun U hU hW => ⟨rfl, Pr.at (hP.sub (ws' := [(h0, .inr (11, fs)), (a0, .inl (cZ, 8, .inl (fun _ => 0)))]) [0, 1] rfl) (hK.sub (tys' := [(cZ, .boolean)]) [0] rfl) (hD.sub (ws' := [(h0, .inr (11, fs)), (a0, .inl (cZ, 8, .inl (fun _ => 0)))]) [0, 1] (by decide) rfl) hN hZ hS hFc hU hW⟩⟩ rfl rfl hl.1 rfl (lv_room (Nat.le_of_ble_eq_true rfl)) dX9_nest_23 ⟨Nat.le_of_ble_eq_true rfl, Nat.le_of_ble_eq_true rfl⟩) hS (fun q _ h => hFc q h) hFc (fun r_12 u t H1 locs ht hvm hw_13 hB hz1 hk1 hS => ?_)
        obtain ⟨hP, hD, hK⟩ := Bq.join (wr := []) hB ht hvm hP hD [0, 1] [] rfl rfl (by decide) (by decide) hk1 hFc hK
        generalize H1 = H at hP hS ⊢
        have hP : va_P (dC, dI) vwCl [] H := hP
        have hD : va_D A [] := hD
        have hK : va_K (dC, dI) vwCl [(cZ, .boolean)] s := hK
        try dsimp only at hw_13
        have k_14 := hw_13
        refine W_toi (y := 0) k_14 ?_
        refine lv_if_eq (tgt := 54) hx hb dX9_nest_26 (by decide) (fun c_15 => ?_) (fun c_15 => absurd (by decide) c_15)
        refine lv_iconst (v := (-1)) hx hb dX9_nest_54 (by decide) ?_
        have hP9 := hP.sub (ws' := []) [] rfl
        have hD9 := hD.sub (ws' := []) [] (by decide) rfl
        have hK9 := hK.sub (tys' := []) [] rfl
        exact W.iret (v := (-1)) hx hb hr (fun t ht hW => ⟨⟨(-1), (), rfl, rfl, by rw [ht]; exact hP9, va_K.moved hW.alike hK9, hD9⟩, hS.F ht⟩) hS.2.2 dX9_nest_55
def wp_X9_drop : List Cond := .code yX9_drop cX9_drop 4 (some .int) :: ([.methodLink RX9 249 yX9_isRecord, .static yX9_isRecord, .initialized RX9, .methodLink RX9 239 yX9_isMake, .instanceMethod yX9_isMake, .selects RX9 yX9_isMake yX9_isMake, .code yX9_isRecord cX9_isRecord 1 (some .boolean), .code yX9_isMake cX9_isMake 2 (some .boolean), .fieldLink RX9 7 "RecordBenchModel" "told" "[Z"] ++ wsX90)
set_option maxRecDepth 20000 in
theorem gp_X9_drop_X9_isRecord_249 : GoodIn wp_X9_drop (wsS RX9 249 yX9_isRecord wp_X9_isRecord) := goodIn_p _ [7] rfl (by decide +kernel)
set_option maxRecDepth 20000 in
theorem gp_X9_drop_X9_isMake_239 : GoodIn wp_X9_drop (wsV RX9 239 RX9 yX9_isMake wp_X9_isMake) := goodIn_p _ [8] rfl (by decide +kernel)
set_option maxHeartbeats 4000000 in
set_option maxRecDepth 100000 in
theorem c_X9_drop (l : Launch) (dC : Nat → ClassId) (dI : Nat → Nat → Nat) (h0 : Nat) (fs : List Value) (hfs : fs.length = 60) (a0 : Nat) (cZ : ClassId) (fh0 : fs[0]? = some (.ref a0)) (p0 : Int32) (p1 : Int32) (p2 : Int32) (sz : Nat) : Met l yX9_drop wp_X9_drop ({ frames := 1, cells := 0, slots := 0, locals := 25 }) (va_Pc [.ref h0, .int p0, .int p1, .int p2] (Pr (dC, dI) [(cZ, .boolean)] [(h0, .inr (11, fs)), (a0, .inl (cZ, 8, .inl (fun _ => 0)))] sz)) (va_Qi (fun r : Int32 => (fun _ : Unit => r = -1)) (Bq (dC, dI) (fun _ : Unit => []) (fun _ : Unit => []) (va_A [(h0, .inr (11, fs)), (a0, .inl (cZ, 8, .inl (fun _ => 0)))] sz)) (va_A [(h0, .inr (11, fs)), (a0, .inl (cZ, 8, .inl (fun _ => 0)))] sz)) 0 0 (va_A [(h0, .inr (11, fs)), (a0, .inl (cZ, 8, .inl (fun _ => 0)))] sz) := by
  refine Met.ofW (cc := cX9_drop) (maxL := 4) (ret := (some .int)) (by decide) rfl ?_
  intro p e s m args below meth c s₁ B hml hv
  obtain ⟨rfl, hsz, hP, hK, hD0, hN, hZ⟩ := hv
  have hx := B.exec
  have hb := B.bytes
  have hr := B.returns
  have hts := atoms_spec (ws := wp_X9_drop) B.pre
  have hown : s.vm.findClass RX9 = some m.cls := findClass_of_methodNamed B.named
  have hlocks := B.notSynchronized
  subst hsz
  have hD := hD0.self (sz := s.heap.size)
  generalize hAe : va_A [(h0, .inr (11, fs)), (a0, .inl (cZ, 8, .inl (fun _ => 0)))] s.heap.size = A at hD hZ ⊢
  have hA : ∀ q : Nat, s.heap.size ≤ q → A q := fun q h => by rw [← hAe]; exact Or.inr h
  have hS : va_S A s.heap s.heap [] := va_S.rf
  have hP : va_P (dC, dI) vwCl [(h0, .inr (11, fs)), (a0, .inl (cZ, 8, .inl (fun _ => 0)))] s.heap := hP
  have hl := lv_entry ([.ref h0, .int p0, .int p1, .int p2]) (n := 4) (Nat.le_of_ble_eq_true rfl)
  rw [lg_entry_eq]
  generalize (lg_sl ([.ref h0, .int p0, .int p1, .int p2]) ++ List.replicate (4 - (lg_sl ([.ref h0, .int p0, .int p1, .int p2])).length) Slot.unset).toArray = ls at hl ⊢
  have hl : lv_has ls 4 [(0, .ref h0), (1, .int p0), (2, .int p1), (3, .int p2)] := hl
  refine lv_iload_n hx hb dX9_drop_0 rfl (lv_at hl 1 rfl) ?_
  have hFc := va_free (wc := []) hD hS hA [] rfl
  refine va_calli (va_runS (As := [.int p0]) (rest := []) ⟨hx, hb, hml, hown, hts⟩ (c_X9_isRecord l dC dI p0 s.heap.size) (cwS 1 hts gp_X9_drop_X9_isRecord_249 rfl rfl rfl (by decide +kernel) ⟨Nat.le_of_ble_eq_true rfl, Nat.le_of_ble_eq_true rfl⟩) ⟨Pr.blind _, fun U hU hW => ⟨rfl, Pr.at (hP.sub (ws' := []) [] rfl) (hK.sub (tys' := []) [] rfl) (hD.sub (ws' := []) [] (by decide) rfl) hN hZ hS hFc hU hW⟩⟩ rfl rfl hl.1 rfl (lv_room (Nat.le_of_ble_eq_true rfl)) dX9_drop_1 ⟨Nat.le_of_ble_eq_true rfl, Nat.le_of_ble_eq_true rfl⟩) hS (fun q _ h => hFc q h) hFc (fun r_1 u t H1 locs ht hvm hw_2 hB hz1 hk1 hS => ?_)
  obtain ⟨hP, hD, hK⟩ := Bq.join (wr := [(h0, .inr (11, fs)), (a0, .inl (cZ, 8, .inl (fun _ => 0)))]) hB ht hvm hP hD [] [0, 1] rfl rfl (by decide) (by decide) hk1 hFc hK
  generalize H1 = H at hP hS ⊢
  have hP : va_P (dC, dI) vwCl [(h0, .inr (11, fs)), (a0, .inl (cZ, 8, .inl (fun _ => 0)))] H := hP
  have hD : va_D A [(h0, .inr (11, fs)), (a0, .inl (cZ, 8, .inl (fun _ => 0)))] := hD
  have hK : va_K (dC, dI) vwCl [(cZ, .boolean)] s := hK
  try dsimp only at hw_2
  have k_3 := hw_2
  rcases k_3 with ⟨ho, rfl⟩ | ⟨ho, rfl⟩
  · refine W.eq (g2 := F0 m 4 ls [.int 0]) rfl ?_
    refine lv_if_eq (tgt := 24) hx hb dX9_drop_4 (by decide) (fun c_4 => ?_) (fun c_4 => absurd (by decide) c_4)
    refine lv_iconst (v := (-1)) hx hb dX9_drop_24 (by decide) ?_
    have hP9 := hP.sub (ws' := []) [] rfl
    have hD9 := hD.sub (ws' := []) [] (by decide) rfl
    have hK9 := hK.sub (tys' := []) [] rfl
    exact W.iret (v := (-1)) hx hb hr (fun t ht hW => ⟨⟨(-1), (), rfl, rfl, by rw [ht]; exact hP9, va_K.moved hW.alike hK9, hD9⟩, hS.F ht⟩) hS.2.2 dX9_drop_25
  · refine W.eq (g2 := F0 m 4 ls [.int 1]) rfl ?_
    refine lv_if_eq (tgt := 24) hx hb dX9_drop_4 (by decide) (fun c_5 => absurd c_5 (by decide)) (fun c_5 => ?_)
    refine lv_aload_n hx hb dX9_drop_7 rfl (lv_at hl 0 rfl) ?_
    refine lv_iload_n hx hb dX9_drop_8 rfl (lv_at hl 2 rfl) ?_
    have hFc := va_free (wc := [(h0, .inr (11, fs)), (a0, .inl (cZ, 8, .inl (fun _ => 0)))]) hD hS hA [0, 1] rfl
    refine va_calli (va_runV (As := [.int p1]) (rest := []) ⟨hx, hb, hml, hown, hts⟩ (c_X9_isMake l dC dI h0 fs hfs a0 cZ fh0 p1 H.size) (cwV 1 hts gp_X9_drop_X9_isMake_239 rfl rfl rfl (by decide +kernel) ⟨Nat.le_of_ble_eq_true rfl, Nat.le_of_ble_eq_true rfl⟩) ⟨Pr.blind _, va_recv hK hP (ci := 11) (q0 := 0) rfl rfl, fun U hU hW => ⟨rfl, Pr.at (hP.sub (ws' := [(h0, .inr (11, fs)), (a0, .inl (cZ, 8, .inl (fun _ => 0)))]) [0, 1] rfl) (hK.sub (tys' := [(cZ, .boolean)]) [0] rfl) (hD.sub (ws' := [(h0, .inr (11, fs)), (a0, .inl (cZ, 8, .inl (fun _ => 0)))]) [0, 1] (by decide) rfl) hN hZ hS hFc hU hW⟩⟩ rfl rfl hl.1 rfl (lv_room (Nat.le_of_ble_eq_true rfl)) dX9_drop_9 ⟨Nat.le_of_ble_eq_true rfl, Nat.le_of_ble_eq_true rfl⟩) hS (fun q _ h => hFc q h) hFc (fun r_6 u t H1 locs ht hvm hw_7 hB hz1 hk1 hS => ?_)
    obtain ⟨hP, hD, hK⟩ := Bq.join (wr := []) hB ht hvm hP hD [0, 1] [] rfl rfl (by decide) (by decide) hk1 hFc hK
    generalize H1 = H at hP hS ⊢
    have hP : va_P (dC, dI) vwCl [] H := hP
    have hD : va_D A [] := hD
    have hK : va_K (dC, dI) vwCl [(cZ, .boolean)] s := hK
    try dsimp only at hw_7
    have k_8 := hw_7
    refine W_toi (y := 0) k_8 ?_
    refine lv_if_eq (tgt := 24) hx hb dX9_drop_12 (by decide) (fun c_9 => ?_) (fun c_9 => absurd (by decide) c_9)
    refine lv_iconst (v := (-1)) hx hb dX9_drop_24 (by decide) ?_
    have hP9 := hP.sub (ws' := []) [] rfl
    have hD9 := hD.sub (ws' := []) [] (by decide) rfl
    have hK9 := hK.sub (tys' := []) [] rfl
    exact W.iret (v := (-1)) hx hb hr (fun t ht hW => ⟨⟨(-1), (), rfl, rfl, by rw [ht]; exact hP9, va_K.moved hW.alike hK9, hD9⟩, hS.F ht⟩) hS.2.2 dX9_drop_25
def wp_X9_read : List Cond := .code yX9_read cX9_read 6 (some .int) :: ([.methodLink RX9 249 yX9_isRecord, .static yX9_isRecord, .initialized RX9, .methodLink RX9 239 yX9_isMake, .instanceMethod yX9_isMake, .selects RX9 yX9_isMake yX9_isMake, .code yX9_isRecord cX9_isRecord 1 (some .boolean), .code yX9_isMake cX9_isMake 2 (some .boolean), .fieldLink RX9 7 "RecordBenchModel" "told" "[Z"] ++ wsX90)
set_option maxRecDepth 20000 in
theorem gp_X9_read_X9_isRecord_249 : GoodIn wp_X9_read (wsS RX9 249 yX9_isRecord wp_X9_isRecord) := goodIn_p _ [7] rfl (by decide +kernel)
set_option maxRecDepth 20000 in
theorem gp_X9_read_X9_isMake_239 : GoodIn wp_X9_read (wsV RX9 239 RX9 yX9_isMake wp_X9_isMake) := goodIn_p _ [8] rfl (by decide +kernel)
set_option maxHeartbeats 4000000 in
set_option maxRecDepth 100000 in
theorem c_X9_read (l : Launch) (dC : Nat → ClassId) (dI : Nat → Nat → Nat) (h0 : Nat) (fs : List Value) (hfs : fs.length = 60) (a0 : Nat) (cZ : ClassId) (fh0 : fs[0]? = some (.ref a0)) (p0 : Int32) (p1 : Int32) (sz : Nat) : Met l yX9_read wp_X9_read ({ frames := 1, cells := 0, slots := 0, locals := 25 }) (va_Pc [.ref h0, .int p0, .int p1] (Pr (dC, dI) [(cZ, .boolean)] [(h0, .inr (11, fs)), (a0, .inl (cZ, 8, .inl (fun _ => 0)))] sz)) (va_Qi (fun r : Int32 => (fun _ : Unit => r = -2)) (Bq (dC, dI) (fun _ : Unit => []) (fun _ : Unit => []) (va_A [(h0, .inr (11, fs)), (a0, .inl (cZ, 8, .inl (fun _ => 0)))] sz)) (va_A [(h0, .inr (11, fs)), (a0, .inl (cZ, 8, .inl (fun _ => 0)))] sz)) 0 0 (va_A [(h0, .inr (11, fs)), (a0, .inl (cZ, 8, .inl (fun _ => 0)))] sz) := by
  refine Met.ofW (cc := cX9_read) (maxL := 6) (ret := (some .int)) (by decide) rfl ?_
  intro p e s m args below meth c s₁ B hml hv
  obtain ⟨rfl, hsz, hP, hK, hD0, hN, hZ⟩ := hv
  have hx := B.exec
  have hb := B.bytes
  have hr := B.returns
  have hts := atoms_spec (ws := wp_X9_read) B.pre
  have hown : s.vm.findClass RX9 = some m.cls := findClass_of_methodNamed B.named
  have hlocks := B.notSynchronized
  subst hsz
  have hD := hD0.self (sz := s.heap.size)
  generalize hAe : va_A [(h0, .inr (11, fs)), (a0, .inl (cZ, 8, .inl (fun _ => 0)))] s.heap.size = A at hD hZ ⊢
  have hA : ∀ q : Nat, s.heap.size ≤ q → A q := fun q h => by rw [← hAe]; exact Or.inr h
  have hS : va_S A s.heap s.heap [] := va_S.rf
  have hP : va_P (dC, dI) vwCl [(h0, .inr (11, fs)), (a0, .inl (cZ, 8, .inl (fun _ => 0)))] s.heap := hP
  have hl := lv_entry ([.ref h0, .int p0, .int p1]) (n := 6) (Nat.le_of_ble_eq_true rfl)
  rw [lg_entry_eq]
  generalize (lg_sl ([.ref h0, .int p0, .int p1]) ++ List.replicate (6 - (lg_sl ([.ref h0, .int p0, .int p1])).length) Slot.unset).toArray = ls at hl ⊢
  have hl : lv_has ls 6 [(0, .ref h0), (1, .int p0), (2, .int p1)] := hl
  refine lv_iload_n hx hb dX9_read_0 rfl (lv_at hl 1 rfl) ?_
  have hFc := va_free (wc := []) hD hS hA [] rfl
  refine va_calli (va_runS (As := [.int p0]) (rest := []) ⟨hx, hb, hml, hown, hts⟩ (c_X9_isRecord l dC dI p0 s.heap.size) (cwS 1 hts gp_X9_read_X9_isRecord_249 rfl rfl rfl (by decide +kernel) ⟨Nat.le_of_ble_eq_true rfl, Nat.le_of_ble_eq_true rfl⟩) ⟨Pr.blind _, fun U hU hW => ⟨rfl, Pr.at (hP.sub (ws' := []) [] rfl) (hK.sub (tys' := []) [] rfl) (hD.sub (ws' := []) [] (by decide) rfl) hN hZ hS hFc hU hW⟩⟩ rfl rfl hl.1 rfl (lv_room (Nat.le_of_ble_eq_true rfl)) dX9_read_1 ⟨Nat.le_of_ble_eq_true rfl, Nat.le_of_ble_eq_true rfl⟩) hS (fun q _ h => hFc q h) hFc (fun r_1 u t H1 locs ht hvm hw_2 hB hz1 hk1 hS => ?_)
  obtain ⟨hP, hD, hK⟩ := Bq.join (wr := [(h0, .inr (11, fs)), (a0, .inl (cZ, 8, .inl (fun _ => 0)))]) hB ht hvm hP hD [] [0, 1] rfl rfl (by decide) (by decide) hk1 hFc hK
  generalize H1 = H at hP hS ⊢
  have hP : va_P (dC, dI) vwCl [(h0, .inr (11, fs)), (a0, .inl (cZ, 8, .inl (fun _ => 0)))] H := hP
  have hD : va_D A [(h0, .inr (11, fs)), (a0, .inl (cZ, 8, .inl (fun _ => 0)))] := hD
  have hK : va_K (dC, dI) vwCl [(cZ, .boolean)] s := hK
  try dsimp only at hw_2
  have k_3 := hw_2
  rcases k_3 with ⟨ho, rfl⟩ | ⟨ho, rfl⟩
  · refine W.eq (g2 := F0 m 4 ls [.int 0]) rfl ?_
    refine lv_if_eq (tgt := 15) hx hb dX9_read_4 (by decide) (fun c_4 => ?_) (fun c_4 => absurd (by decide) c_4)
    refine lv_bipush (v := (-2)) hx hb dX9_read_15 (by decide) ?_
    have hP9 := hP.sub (ws' := []) [] rfl
    have hD9 := hD.sub (ws' := []) [] (by decide) rfl
    have hK9 := hK.sub (tys' := []) [] rfl
    exact W.iret (v := (-2)) hx hb hr (fun t ht hW => ⟨⟨(-2), (), rfl, rfl, by rw [ht]; exact hP9, va_K.moved hW.alike hK9, hD9⟩, hS.F ht⟩) hS.2.2 dX9_read_17
  · refine W.eq (g2 := F0 m 4 ls [.int 1]) rfl ?_
    refine lv_if_eq (tgt := 15) hx hb dX9_read_4 (by decide) (fun c_5 => absurd c_5 (by decide)) (fun c_5 => ?_)
    refine lv_aload_n hx hb dX9_read_7 rfl (lv_at hl 0 rfl) ?_
    refine lv_iload_n hx hb dX9_read_8 rfl (lv_at hl 2 rfl) ?_
    have hFc := va_free (wc := [(h0, .inr (11, fs)), (a0, .inl (cZ, 8, .inl (fun _ => 0)))]) hD hS hA [0, 1] rfl
    refine va_calli (va_runV (As := [.int p1]) (rest := []) ⟨hx, hb, hml, hown, hts⟩ (c_X9_isMake l dC dI h0 fs hfs a0 cZ fh0 p1 H.size) (cwV 1 hts gp_X9_read_X9_isMake_239 rfl rfl rfl (by decide +kernel) ⟨Nat.le_of_ble_eq_true rfl, Nat.le_of_ble_eq_true rfl⟩) ⟨Pr.blind _, va_recv hK hP (ci := 11) (q0 := 0) rfl rfl, fun U hU hW => ⟨rfl, Pr.at (hP.sub (ws' := [(h0, .inr (11, fs)), (a0, .inl (cZ, 8, .inl (fun _ => 0)))]) [0, 1] rfl) (hK.sub (tys' := [(cZ, .boolean)]) [0] rfl) (hD.sub (ws' := [(h0, .inr (11, fs)), (a0, .inl (cZ, 8, .inl (fun _ => 0)))]) [0, 1] (by decide) rfl) hN hZ hS hFc hU hW⟩⟩ rfl rfl hl.1 rfl (lv_room (Nat.le_of_ble_eq_true rfl)) dX9_read_9 ⟨Nat.le_of_ble_eq_true rfl, Nat.le_of_ble_eq_true rfl⟩) hS (fun q _ h => hFc q h) hFc (fun r_6 u t H1 locs ht hvm hw_7 hB hz1 hk1 hS => ?_)
    obtain ⟨hP, hD, hK⟩ := Bq.join (wr := []) hB ht hvm hP hD [0, 1] [] rfl rfl (by decide) (by decide) hk1 hFc hK
    generalize H1 = H at hP hS ⊢
    have hP : va_P (dC, dI) vwCl [] H := hP
    have hD : va_D A [] := hD
    have hK : va_K (dC, dI) vwCl [(cZ, .boolean)] s := hK
    try dsimp only at hw_7
    have k_8 := hw_7
    refine W_toi (y := 0) k_8 ?_
    refine lv_if_ne (tgt := 18) hx hb dX9_read_12 (by decide) (fun c_9 => absurd (by decide) c_9) (fun c_9 => ?_)
    refine lv_bipush (v := (-2)) hx hb dX9_read_15 (by decide) ?_
    have hP9 := hP.sub (ws' := []) [] rfl
    have hD9 := hD.sub (ws' := []) [] (by decide) rfl
    have hK9 := hK.sub (tys' := []) [] rfl
    exact W.iret (v := (-2)) hx hb hr (fun t ht hW => ⟨⟨(-2), (), rfl, rfl, by rw [ht]; exact hP9, va_K.moved hW.alike hK9, hD9⟩, hS.F ht⟩) hS.2.2 dX9_read_17
def wp_X9_get : List Cond := .code yX9_get cX9_get 6 (some .long) :: ([.methodLink RX9 249 yX9_isRecord, .static yX9_isRecord, .initialized RX9, .constantLong RX9 311 (-9000000000000000000), .methodLink RX9 239 yX9_isMake, .instanceMethod yX9_isMake, .selects RX9 yX9_isMake yX9_isMake, .code yX9_isRecord cX9_isRecord 1 (some .boolean), .code yX9_isMake cX9_isMake 2 (some .boolean), .fieldLink RX9 7 "RecordBenchModel" "told" "[Z"] ++ wsX90)
set_option maxRecDepth 20000 in
theorem gp_X9_get_X9_isRecord_249 : GoodIn wp_X9_get (wsS RX9 249 yX9_isRecord wp_X9_isRecord) := goodIn_p _ [8] rfl (by decide +kernel)
set_option maxRecDepth 20000 in
theorem gp_X9_get_X9_isMake_239 : GoodIn wp_X9_get (wsV RX9 239 RX9 yX9_isMake wp_X9_isMake) := goodIn_p _ [9] rfl (by decide +kernel)
set_option maxHeartbeats 4000000 in
set_option maxRecDepth 100000 in
theorem c_X9_get (l : Launch) (dC : Nat → ClassId) (dI : Nat → Nat → Nat) (h0 : Nat) (fs : List Value) (hfs : fs.length = 60) (a0 : Nat) (cZ : ClassId) (fh0 : fs[0]? = some (.ref a0)) (p0 : Int32) (p1 : Int32) (p2 : Int32) (p3 : Int32) (sz : Nat) : Met l yX9_get wp_X9_get ({ frames := 1, cells := 0, slots := 0, locals := 25 }) (va_Pc [.ref h0, .int p0, .int p1, .int p2, .int p3] (Pr (dC, dI) [(cZ, .boolean)] [(h0, .inr (11, fs)), (a0, .inl (cZ, 8, .inl (fun _ => 0)))] sz)) (va_Ql (fun r : Int64 => (fun _ : Unit => r = -9000000000000000000)) (Bq (dC, dI) (fun _ : Unit => []) (fun _ : Unit => []) (va_A [(h0, .inr (11, fs)), (a0, .inl (cZ, 8, .inl (fun _ => 0)))] sz)) (va_A [(h0, .inr (11, fs)), (a0, .inl (cZ, 8, .inl (fun _ => 0)))] sz)) 0 0 (va_A [(h0, .inr (11, fs)), (a0, .inl (cZ, 8, .inl (fun _ => 0)))] sz) := by
  refine Met.ofW (cc := cX9_get) (maxL := 6) (ret := (some .long)) (by decide) rfl ?_
  intro p e s m args below meth c s₁ B hml hv
  obtain ⟨rfl, hsz, hP, hK, hD0, hN, hZ⟩ := hv
  have hx := B.exec
  have hb := B.bytes
  have hr := B.returns
  have hts := atoms_spec (ws := wp_X9_get) B.pre
  have hown : s.vm.findClass RX9 = some m.cls := findClass_of_methodNamed B.named
  have hlocks := B.notSynchronized
  subst hsz
  have hD := hD0.self (sz := s.heap.size)
  generalize hAe : va_A [(h0, .inr (11, fs)), (a0, .inl (cZ, 8, .inl (fun _ => 0)))] s.heap.size = A at hD hZ ⊢
  have hA : ∀ q : Nat, s.heap.size ≤ q → A q := fun q h => by rw [← hAe]; exact Or.inr h
  have hS : va_S A s.heap s.heap [] := va_S.rf
  have hP : va_P (dC, dI) vwCl [(h0, .inr (11, fs)), (a0, .inl (cZ, 8, .inl (fun _ => 0)))] s.heap := hP
  have hl := lv_entry ([.ref h0, .int p0, .int p1, .int p2, .int p3]) (n := 6) (Nat.le_of_ble_eq_true rfl)
  rw [lg_entry_eq]
  generalize (lg_sl ([.ref h0, .int p0, .int p1, .int p2, .int p3]) ++ List.replicate (6 - (lg_sl ([.ref h0, .int p0, .int p1, .int p2, .int p3])).length) Slot.unset).toArray = ls at hl ⊢
  have hl : lv_has ls 6 [(0, .ref h0), (1, .int p0), (2, .int p1), (3, .int p2), (4, .int p3)] := hl
  refine lv_iload_n hx hb dX9_get_0 rfl (lv_at hl 1 rfl) ?_
  have hFc := va_free (wc := []) hD hS hA [] rfl
  refine va_calli (va_runS (As := [.int p0]) (rest := []) ⟨hx, hb, hml, hown, hts⟩ (c_X9_isRecord l dC dI p0 s.heap.size) (cwS 1 hts gp_X9_get_X9_isRecord_249 rfl rfl rfl (by decide +kernel) ⟨Nat.le_of_ble_eq_true rfl, Nat.le_of_ble_eq_true rfl⟩) ⟨Pr.blind _, fun U hU hW => ⟨rfl, Pr.at (hP.sub (ws' := []) [] rfl) (hK.sub (tys' := []) [] rfl) (hD.sub (ws' := []) [] (by decide) rfl) hN hZ hS hFc hU hW⟩⟩ rfl rfl hl.1 rfl (lv_room (Nat.le_of_ble_eq_true rfl)) dX9_get_1 ⟨Nat.le_of_ble_eq_true rfl, Nat.le_of_ble_eq_true rfl⟩) hS (fun q _ h => hFc q h) hFc (fun r_1 u t H1 locs ht hvm hw_2 hB hz1 hk1 hS => ?_)
  obtain ⟨hP, hD, hK⟩ := Bq.join (wr := [(h0, .inr (11, fs)), (a0, .inl (cZ, 8, .inl (fun _ => 0)))]) hB ht hvm hP hD [] [0, 1] rfl rfl (by decide) (by decide) hk1 hFc hK
  generalize H1 = H at hP hS ⊢
  have hP : va_P (dC, dI) vwCl [(h0, .inr (11, fs)), (a0, .inl (cZ, 8, .inl (fun _ => 0)))] H := hP
  have hD : va_D A [(h0, .inr (11, fs)), (a0, .inl (cZ, 8, .inl (fun _ => 0)))] := hD
  have hK : va_K (dC, dI) vwCl [(cZ, .boolean)] s := hK
  try dsimp only at hw_2
  have k_3 := hw_2
  rcases k_3 with ⟨ho, rfl⟩ | ⟨ho, rfl⟩
  · refine W.eq (g2 := F0 m 4 ls [.int 0]) rfl ?_
    refine lv_if_eq (tgt := 44) hx hb dX9_get_4 (by decide) (fun c_4 => ?_) (fun c_4 => absurd (by decide) c_4)
    refine lv_ldc2 hx hb hown (hts (.constantLong RX9 311 (-9000000000000000000)) (by decide +kernel)) dX9_get_44 ?_
    have hP9 := hP.sub (ws' := []) [] rfl
    have hD9 := hD.sub (ws' := []) [] (by decide) rfl
    have hK9 := hK.sub (tys' := []) [] rfl
    exact W.lret (v := (-9000000000000000000)) hx hb hr (fun t ht hW => ⟨⟨(-9000000000000000000), (), rfl, rfl, by rw [ht]; exact hP9, va_K.moved hW.alike hK9, hD9⟩, hS.F ht⟩) hS.2.2 dX9_get_47
  · refine W.eq (g2 := F0 m 4 ls [.int 1]) rfl ?_
    refine lv_if_eq (tgt := 44) hx hb dX9_get_4 (by decide) (fun c_5 => absurd c_5 (by decide)) (fun c_5 => ?_)
    refine lv_aload_n hx hb dX9_get_7 rfl (lv_at hl 0 rfl) ?_
    refine lv_iload_n hx hb dX9_get_8 rfl (lv_at hl 2 rfl) ?_
    have hFc := va_free (wc := [(h0, .inr (11, fs)), (a0, .inl (cZ, 8, .inl (fun _ => 0)))]) hD hS hA [0, 1] rfl
    refine va_calli (va_runV (As := [.int p1]) (rest := []) ⟨hx, hb, hml, hown, hts⟩ (c_X9_isMake l dC dI h0 fs hfs a0 cZ fh0 p1 H.size) (cwV 1 hts gp_X9_get_X9_isMake_239 rfl rfl rfl (by decide +kernel) ⟨Nat.le_of_ble_eq_true rfl, Nat.le_of_ble_eq_true rfl⟩) ⟨Pr.blind _, va_recv hK hP (ci := 11) (q0 := 0) rfl rfl, fun U hU hW => ⟨rfl, Pr.at (hP.sub (ws' := [(h0, .inr (11, fs)), (a0, .inl (cZ, 8, .inl (fun _ => 0)))]) [0, 1] rfl) (hK.sub (tys' := [(cZ, .boolean)]) [0] rfl) (hD.sub (ws' := [(h0, .inr (11, fs)), (a0, .inl (cZ, 8, .inl (fun _ => 0)))]) [0, 1] (by decide) rfl) hN hZ hS hFc hU hW⟩⟩ rfl rfl hl.1 rfl (lv_room (Nat.le_of_ble_eq_true rfl)) dX9_get_9 ⟨Nat.le_of_ble_eq_true rfl, Nat.le_of_ble_eq_true rfl⟩) hS (fun q _ h => hFc q h) hFc (fun r_6 u t H1 locs ht hvm hw_7 hB hz1 hk1 hS => ?_)
    obtain ⟨hP, hD, hK⟩ := Bq.join (wr := []) hB ht hvm hP hD [0, 1] [] rfl rfl (by decide) (by decide) hk1 hFc hK
    generalize H1 = H at hP hS ⊢
    have hP : va_P (dC, dI) vwCl [] H := hP
    have hD : va_D A [] := hD
    have hK : va_K (dC, dI) vwCl [(cZ, .boolean)] s := hK
    try dsimp only at hw_7
    have k_8 := hw_7
    refine W_toi (y := 0) k_8 ?_
    refine lv_if_eq (tgt := 44) hx hb dX9_get_12 (by decide) (fun c_9 => ?_) (fun c_9 => absurd (by decide) c_9)
    refine lv_ldc2 hx hb hown (hts (.constantLong RX9 311 (-9000000000000000000)) (by decide +kernel)) dX9_get_44 ?_
    have hP9 := hP.sub (ws' := []) [] rfl
    have hD9 := hD.sub (ws' := []) [] (by decide) rfl
    have hK9 := hK.sub (tys' := []) [] rfl
    exact W.lret (v := (-9000000000000000000)) hx hb hr (fun t ht hW => ⟨⟨(-9000000000000000000), (), rfl, rfl, by rw [ht]; exact hP9, va_K.moved hW.alike hK9, hD9⟩, hS.F ht⟩) hS.2.2 dX9_get_47
def wp_X9_kept : List Cond := .code yX9_kept cX9_kept 5 (some .int) :: ([.methodLink RX9 249 yX9_isRecord, .static yX9_isRecord, .initialized RX9, .methodLink RX9 239 yX9_isMake, .instanceMethod yX9_isMake, .selects RX9 yX9_isMake yX9_isMake, .code yX9_isRecord cX9_isRecord 1 (some .boolean), .code yX9_isMake cX9_isMake 2 (some .boolean), .fieldLink RX9 7 "RecordBenchModel" "told" "[Z"] ++ wsX90)
set_option maxRecDepth 20000 in
theorem gp_X9_kept_X9_isRecord_249 : GoodIn wp_X9_kept (wsS RX9 249 yX9_isRecord wp_X9_isRecord) := goodIn_p _ [7] rfl (by decide +kernel)
set_option maxRecDepth 20000 in
theorem gp_X9_kept_X9_isMake_239 : GoodIn wp_X9_kept (wsV RX9 239 RX9 yX9_isMake wp_X9_isMake) := goodIn_p _ [8] rfl (by decide +kernel)
set_option maxHeartbeats 4000000 in
set_option maxRecDepth 100000 in
theorem c_X9_kept (l : Launch) (dC : Nat → ClassId) (dI : Nat → Nat → Nat) (h0 : Nat) (fs : List Value) (hfs : fs.length = 60) (a0 : Nat) (cZ : ClassId) (fh0 : fs[0]? = some (.ref a0)) (p0 : Int32) (p1 : Int32) (sz : Nat) : Met l yX9_kept wp_X9_kept ({ frames := 1, cells := 0, slots := 0, locals := 25 }) (va_Pc [.ref h0, .int p0, .int p1] (Pr (dC, dI) [(cZ, .boolean)] [(h0, .inr (11, fs)), (a0, .inl (cZ, 8, .inl (fun _ => 0)))] sz)) (va_Qi (fun r : Int32 => (fun _ : Unit => r = -1)) (Bq (dC, dI) (fun _ : Unit => []) (fun _ : Unit => []) (va_A [(h0, .inr (11, fs)), (a0, .inl (cZ, 8, .inl (fun _ => 0)))] sz)) (va_A [(h0, .inr (11, fs)), (a0, .inl (cZ, 8, .inl (fun _ => 0)))] sz)) 0 0 (va_A [(h0, .inr (11, fs)), (a0, .inl (cZ, 8, .inl (fun _ => 0)))] sz) := by
  refine Met.ofW (cc := cX9_kept) (maxL := 5) (ret := (some .int)) (by decide) rfl ?_
  intro p e s m args below meth c s₁ B hml hv
  obtain ⟨rfl, hsz, hP, hK, hD0, hN, hZ⟩ := hv
  have hx := B.exec
  have hb := B.bytes
  have hr := B.returns
  have hts := atoms_spec (ws := wp_X9_kept) B.pre
  have hown : s.vm.findClass RX9 = some m.cls := findClass_of_methodNamed B.named
  have hlocks := B.notSynchronized
  subst hsz
  have hD := hD0.self (sz := s.heap.size)
  generalize hAe : va_A [(h0, .inr (11, fs)), (a0, .inl (cZ, 8, .inl (fun _ => 0)))] s.heap.size = A at hD hZ ⊢
  have hA : ∀ q : Nat, s.heap.size ≤ q → A q := fun q h => by rw [← hAe]; exact Or.inr h
  have hS : va_S A s.heap s.heap [] := va_S.rf
  have hP : va_P (dC, dI) vwCl [(h0, .inr (11, fs)), (a0, .inl (cZ, 8, .inl (fun _ => 0)))] s.heap := hP
  have hl := lv_entry ([.ref h0, .int p0, .int p1]) (n := 5) (Nat.le_of_ble_eq_true rfl)
  rw [lg_entry_eq]
  generalize (lg_sl ([.ref h0, .int p0, .int p1]) ++ List.replicate (5 - (lg_sl ([.ref h0, .int p0, .int p1])).length) Slot.unset).toArray = ls at hl ⊢
  have hl : lv_has ls 5 [(0, .ref h0), (1, .int p0), (2, .int p1)] := hl
  refine lv_iload_n hx hb dX9_kept_0 rfl (lv_at hl 1 rfl) ?_
  have hFc := va_free (wc := []) hD hS hA [] rfl
  refine va_calli (va_runS (As := [.int p0]) (rest := []) ⟨hx, hb, hml, hown, hts⟩ (c_X9_isRecord l dC dI p0 s.heap.size) (cwS 1 hts gp_X9_kept_X9_isRecord_249 rfl rfl rfl (by decide +kernel) ⟨Nat.le_of_ble_eq_true rfl, Nat.le_of_ble_eq_true rfl⟩) ⟨Pr.blind _, fun U hU hW => ⟨rfl, Pr.at (hP.sub (ws' := []) [] rfl) (hK.sub (tys' := []) [] rfl) (hD.sub (ws' := []) [] (by decide) rfl) hN hZ hS hFc hU hW⟩⟩ rfl rfl hl.1 rfl (lv_room (Nat.le_of_ble_eq_true rfl)) dX9_kept_1 ⟨Nat.le_of_ble_eq_true rfl, Nat.le_of_ble_eq_true rfl⟩) hS (fun q _ h => hFc q h) hFc (fun r_1 u t H1 locs ht hvm hw_2 hB hz1 hk1 hS => ?_)
  obtain ⟨hP, hD, hK⟩ := Bq.join (wr := [(h0, .inr (11, fs)), (a0, .inl (cZ, 8, .inl (fun _ => 0)))]) hB ht hvm hP hD [] [0, 1] rfl rfl (by decide) (by decide) hk1 hFc hK
  generalize H1 = H at hP hS ⊢
  have hP : va_P (dC, dI) vwCl [(h0, .inr (11, fs)), (a0, .inl (cZ, 8, .inl (fun _ => 0)))] H := hP
  have hD : va_D A [(h0, .inr (11, fs)), (a0, .inl (cZ, 8, .inl (fun _ => 0)))] := hD
  have hK : va_K (dC, dI) vwCl [(cZ, .boolean)] s := hK
  try dsimp only at hw_2
  have k_3 := hw_2
  rcases k_3 with ⟨ho, rfl⟩ | ⟨ho, rfl⟩
  · refine W.eq (g2 := F0 m 4 ls [.int 0]) rfl ?_
    refine lv_if_eq (tgt := 24) hx hb dX9_kept_4 (by decide) (fun c_4 => ?_) (fun c_4 => absurd (by decide) c_4)
    refine lv_iconst (v := (-1)) hx hb dX9_kept_24 (by decide) ?_
    have hP9 := hP.sub (ws' := []) [] rfl
    have hD9 := hD.sub (ws' := []) [] (by decide) rfl
    have hK9 := hK.sub (tys' := []) [] rfl
    exact W.iret (v := (-1)) hx hb hr (fun t ht hW => ⟨⟨(-1), (), rfl, rfl, by rw [ht]; exact hP9, va_K.moved hW.alike hK9, hD9⟩, hS.F ht⟩) hS.2.2 dX9_kept_25
  · refine W.eq (g2 := F0 m 4 ls [.int 1]) rfl ?_
    refine lv_if_eq (tgt := 24) hx hb dX9_kept_4 (by decide) (fun c_5 => absurd c_5 (by decide)) (fun c_5 => ?_)
    refine lv_aload_n hx hb dX9_kept_7 rfl (lv_at hl 0 rfl) ?_
    refine lv_iload_n hx hb dX9_kept_8 rfl (lv_at hl 2 rfl) ?_
    have hFc := va_free (wc := [(h0, .inr (11, fs)), (a0, .inl (cZ, 8, .inl (fun _ => 0)))]) hD hS hA [0, 1] rfl
    refine va_calli (va_runV (As := [.int p1]) (rest := []) ⟨hx, hb, hml, hown, hts⟩ (c_X9_isMake l dC dI h0 fs hfs a0 cZ fh0 p1 H.size) (cwV 1 hts gp_X9_kept_X9_isMake_239 rfl rfl rfl (by decide +kernel) ⟨Nat.le_of_ble_eq_true rfl, Nat.le_of_ble_eq_true rfl⟩) ⟨Pr.blind _, va_recv hK hP (ci := 11) (q0 := 0) rfl rfl, fun U hU hW => ⟨rfl, Pr.at (hP.sub (ws' := [(h0, .inr (11, fs)), (a0, .inl (cZ, 8, .inl (fun _ => 0)))]) [0, 1] rfl) (hK.sub (tys' := [(cZ, .boolean)]) [0] rfl) (hD.sub (ws' := [(h0, .inr (11, fs)), (a0, .inl (cZ, 8, .inl (fun _ => 0)))]) [0, 1] (by decide) rfl) hN hZ hS hFc hU hW⟩⟩ rfl rfl hl.1 rfl (lv_room (Nat.le_of_ble_eq_true rfl)) dX9_kept_9 ⟨Nat.le_of_ble_eq_true rfl, Nat.le_of_ble_eq_true rfl⟩) hS (fun q _ h => hFc q h) hFc (fun r_6 u t H1 locs ht hvm hw_7 hB hz1 hk1 hS => ?_)
    obtain ⟨hP, hD, hK⟩ := Bq.join (wr := []) hB ht hvm hP hD [0, 1] [] rfl rfl (by decide) (by decide) hk1 hFc hK
    generalize H1 = H at hP hS ⊢
    have hP : va_P (dC, dI) vwCl [] H := hP
    have hD : va_D A [] := hD
    have hK : va_K (dC, dI) vwCl [(cZ, .boolean)] s := hK
    try dsimp only at hw_7
    have k_8 := hw_7
    refine W_toi (y := 0) k_8 ?_
    refine lv_if_eq (tgt := 24) hx hb dX9_kept_12 (by decide) (fun c_9 => ?_) (fun c_9 => absurd (by decide) c_9)
    refine lv_iconst (v := (-1)) hx hb dX9_kept_24 (by decide) ?_
    have hP9 := hP.sub (ws' := []) [] rfl
    have hD9 := hD.sub (ws' := []) [] (by decide) rfl
    have hK9 := hK.sub (tys' := []) [] rfl
    exact W.iret (v := (-1)) hx hb hr (fun t ht hW => ⟨⟨(-1), (), rfl, rfl, by rw [ht]; exact hP9, va_K.moved hW.alike hK9, hD9⟩, hS.F ht⟩) hS.2.2 dX9_kept_25
def wp_X9_write : List Cond := .code yX9_write cX9_write 4 (some .int) :: ([.methodLink RX9 249 yX9_isRecord, .static yX9_isRecord, .initialized RX9, .methodLink RX9 239 yX9_isMake, .instanceMethod yX9_isMake, .selects RX9 yX9_isMake yX9_isMake, .code yX9_isRecord cX9_isRecord 1 (some .boolean), .code yX9_isMake cX9_isMake 2 (some .boolean), .fieldLink RX9 7 "RecordBenchModel" "told" "[Z"] ++ wsX90)
set_option maxRecDepth 20000 in
theorem gp_X9_write_X9_isRecord_249 : GoodIn wp_X9_write (wsS RX9 249 yX9_isRecord wp_X9_isRecord) := goodIn_p _ [7] rfl (by decide +kernel)
set_option maxRecDepth 20000 in
theorem gp_X9_write_X9_isMake_239 : GoodIn wp_X9_write (wsV RX9 239 RX9 yX9_isMake wp_X9_isMake) := goodIn_p _ [8] rfl (by decide +kernel)
set_option maxHeartbeats 4000000 in
set_option maxRecDepth 100000 in
theorem c_X9_write (l : Launch) (dC : Nat → ClassId) (dI : Nat → Nat → Nat) (h0 : Nat) (fs : List Value) (hfs : fs.length = 60) (a0 : Nat) (cZ : ClassId) (fh0 : fs[0]? = some (.ref a0)) (p0 : Int32) (p1 : Int32) (p2 : Int32) (sz : Nat) : Met l yX9_write wp_X9_write ({ frames := 1, cells := 0, slots := 0, locals := 25 }) (va_Pc [.ref h0, .int p0, .int p1, .int p2] (Pr (dC, dI) [(cZ, .boolean)] [(h0, .inr (11, fs)), (a0, .inl (cZ, 8, .inl (fun _ => 0)))] sz)) (va_Qi (fun r : Int32 => (fun _ : Unit => r = -1)) (Bq (dC, dI) (fun _ : Unit => []) (fun _ : Unit => []) (va_A [(h0, .inr (11, fs)), (a0, .inl (cZ, 8, .inl (fun _ => 0)))] sz)) (va_A [(h0, .inr (11, fs)), (a0, .inl (cZ, 8, .inl (fun _ => 0)))] sz)) 0 0 (va_A [(h0, .inr (11, fs)), (a0, .inl (cZ, 8, .inl (fun _ => 0)))] sz) := by
  refine Met.ofW (cc := cX9_write) (maxL := 4) (ret := (some .int)) (by decide) rfl ?_
  intro p e s m args below meth c s₁ B hml hv
  obtain ⟨rfl, hsz, hP, hK, hD0, hN, hZ⟩ := hv
  have hx := B.exec
  have hb := B.bytes
  have hr := B.returns
  have hts := atoms_spec (ws := wp_X9_write) B.pre
  have hown : s.vm.findClass RX9 = some m.cls := findClass_of_methodNamed B.named
  have hlocks := B.notSynchronized
  subst hsz
  have hD := hD0.self (sz := s.heap.size)
  generalize hAe : va_A [(h0, .inr (11, fs)), (a0, .inl (cZ, 8, .inl (fun _ => 0)))] s.heap.size = A at hD hZ ⊢
  have hA : ∀ q : Nat, s.heap.size ≤ q → A q := fun q h => by rw [← hAe]; exact Or.inr h
  have hS : va_S A s.heap s.heap [] := va_S.rf
  have hP : va_P (dC, dI) vwCl [(h0, .inr (11, fs)), (a0, .inl (cZ, 8, .inl (fun _ => 0)))] s.heap := hP
  have hl := lv_entry ([.ref h0, .int p0, .int p1, .int p2]) (n := 4) (Nat.le_of_ble_eq_true rfl)
  rw [lg_entry_eq]
  generalize (lg_sl ([.ref h0, .int p0, .int p1, .int p2]) ++ List.replicate (4 - (lg_sl ([.ref h0, .int p0, .int p1, .int p2])).length) Slot.unset).toArray = ls at hl ⊢
  have hl : lv_has ls 4 [(0, .ref h0), (1, .int p0), (2, .int p1), (3, .int p2)] := hl
  refine lv_iload_n hx hb dX9_write_0 rfl (lv_at hl 1 rfl) ?_
  have hFc := va_free (wc := []) hD hS hA [] rfl
  refine va_calli (va_runS (As := [.int p0]) (rest := []) ⟨hx, hb, hml, hown, hts⟩ (c_X9_isRecord l dC dI p0 s.heap.size) (cwS 1 hts gp_X9_write_X9_isRecord_249 rfl rfl rfl (by decide +kernel) ⟨Nat.le_of_ble_eq_true rfl, Nat.le_of_ble_eq_true rfl⟩) ⟨Pr.blind _, fun U hU hW => ⟨rfl, Pr.at (hP.sub (ws' := []) [] rfl) (hK.sub (tys' := []) [] rfl) (hD.sub (ws' := []) [] (by decide) rfl) hN hZ hS hFc hU hW⟩⟩ rfl rfl hl.1 rfl (lv_room (Nat.le_of_ble_eq_true rfl)) dX9_write_1 ⟨Nat.le_of_ble_eq_true rfl, Nat.le_of_ble_eq_true rfl⟩) hS (fun q _ h => hFc q h) hFc (fun r_1 u t H1 locs ht hvm hw_2 hB hz1 hk1 hS => ?_)
  obtain ⟨hP, hD, hK⟩ := Bq.join (wr := [(h0, .inr (11, fs)), (a0, .inl (cZ, 8, .inl (fun _ => 0)))]) hB ht hvm hP hD [] [0, 1] rfl rfl (by decide) (by decide) hk1 hFc hK
  generalize H1 = H at hP hS ⊢
  have hP : va_P (dC, dI) vwCl [(h0, .inr (11, fs)), (a0, .inl (cZ, 8, .inl (fun _ => 0)))] H := hP
  have hD : va_D A [(h0, .inr (11, fs)), (a0, .inl (cZ, 8, .inl (fun _ => 0)))] := hD
  have hK : va_K (dC, dI) vwCl [(cZ, .boolean)] s := hK
  try dsimp only at hw_2
  have k_3 := hw_2
  rcases k_3 with ⟨ho, rfl⟩ | ⟨ho, rfl⟩
  · refine W.eq (g2 := F0 m 4 ls [.int 0]) rfl ?_
    refine lv_if_eq (tgt := 22) hx hb dX9_write_4 (by decide) (fun c_4 => ?_) (fun c_4 => absurd (by decide) c_4)
    refine lv_iconst (v := (-1)) hx hb dX9_write_22 (by decide) ?_
    have hP9 := hP.sub (ws' := []) [] rfl
    have hD9 := hD.sub (ws' := []) [] (by decide) rfl
    have hK9 := hK.sub (tys' := []) [] rfl
    exact W.iret (v := (-1)) hx hb hr (fun t ht hW => ⟨⟨(-1), (), rfl, rfl, by rw [ht]; exact hP9, va_K.moved hW.alike hK9, hD9⟩, hS.F ht⟩) hS.2.2 dX9_write_23
  · refine W.eq (g2 := F0 m 4 ls [.int 1]) rfl ?_
    refine lv_if_eq (tgt := 22) hx hb dX9_write_4 (by decide) (fun c_5 => absurd c_5 (by decide)) (fun c_5 => ?_)
    refine lv_iload_n hx hb dX9_write_7 rfl (lv_at hl 3 rfl) ?_
    have hFc := va_free (wc := []) hD hS hA [] rfl
    refine va_calli (va_runS (As := [.int p2]) (rest := []) ⟨hx, hb, hml, hown, hts⟩ (c_X9_isRecord l dC dI p2 H.size) (cwS 1 hts gp_X9_write_X9_isRecord_249 rfl rfl rfl (by decide +kernel) ⟨Nat.le_of_ble_eq_true rfl, Nat.le_of_ble_eq_true rfl⟩) ⟨Pr.blind _, fun U hU hW => ⟨rfl, Pr.at (hP.sub (ws' := []) [] rfl) (hK.sub (tys' := []) [] rfl) (hD.sub (ws' := []) [] (by decide) rfl) hN hZ hS hFc hU hW⟩⟩ rfl rfl hl.1 rfl (lv_room (Nat.le_of_ble_eq_true rfl)) dX9_write_8 ⟨Nat.le_of_ble_eq_true rfl, Nat.le_of_ble_eq_true rfl⟩) hS (fun q _ h => hFc q h) hFc (fun r_6 u t H1 locs ht hvm hw_7 hB hz1 hk1 hS => ?_)
    obtain ⟨hP, hD, hK⟩ := Bq.join (wr := [(h0, .inr (11, fs)), (a0, .inl (cZ, 8, .inl (fun _ => 0)))]) hB ht hvm hP hD [] [0, 1] rfl rfl (by decide) (by decide) hk1 hFc hK
    generalize H1 = H at hP hS ⊢
    have hP : va_P (dC, dI) vwCl [(h0, .inr (11, fs)), (a0, .inl (cZ, 8, .inl (fun _ => 0)))] H := hP
    have hD : va_D A [(h0, .inr (11, fs)), (a0, .inl (cZ, 8, .inl (fun _ => 0)))] := hD
    have hK : va_K (dC, dI) vwCl [(cZ, .boolean)] s := hK
    try dsimp only at hw_7
    have k_8 := hw_7
    rcases k_8 with ⟨ho, rfl⟩ | ⟨ho, rfl⟩
    · refine W.eq (g2 := F0 m 11 ls [.int 0]) rfl ?_
      refine lv_if_eq (tgt := 22) hx hb dX9_write_11 (by decide) (fun c_9 => ?_) (fun c_9 => absurd (by decide) c_9)
      refine lv_iconst (v := (-1)) hx hb dX9_write_22 (by decide) ?_
      have hP9 := hP.sub (ws' := []) [] rfl
      have hD9 := hD.sub (ws' := []) [] (by decide) rfl
      have hK9 := hK.sub (tys' := []) [] rfl
      exact W.iret (v := (-1)) hx hb hr (fun t ht hW => ⟨⟨(-1), (), rfl, rfl, by rw [ht]; exact hP9, va_K.moved hW.alike hK9, hD9⟩, hS.F ht⟩) hS.2.2 dX9_write_23
    · refine W.eq (g2 := F0 m 11 ls [.int 1]) rfl ?_
      refine lv_if_eq (tgt := 22) hx hb dX9_write_11 (by decide) (fun c_10 => absurd c_10 (by decide)) (fun c_10 => ?_)
      refine lv_aload_n hx hb dX9_write_14 rfl (lv_at hl 0 rfl) ?_
      refine lv_iload_n hx hb dX9_write_15 rfl (lv_at hl 2 rfl) ?_
      have hFc := va_free (wc := [(h0, .inr (11, fs)), (a0, .inl (cZ, 8, .inl (fun _ => 0)))]) hD hS hA [0, 1] rfl
      refine va_calli (va_runV (As := [.int p1]) (rest := []) ⟨hx, hb, hml, hown, hts⟩ (c_X9_isMake l dC dI h0 fs hfs a0 cZ fh0 p1 H.size) (cwV 1 hts gp_X9_write_X9_isMake_239 rfl rfl rfl (by decide +kernel) ⟨Nat.le_of_ble_eq_true rfl, Nat.le_of_ble_eq_true rfl⟩) ⟨Pr.blind _, va_recv hK hP (ci := 11) (q0 := 0) rfl rfl, fun U hU hW => ⟨rfl, Pr.at (hP.sub (ws' := [(h0, .inr (11, fs)), (a0, .inl (cZ, 8, .inl (fun _ => 0)))]) [0, 1] rfl) (hK.sub (tys' := [(cZ, .boolean)]) [0] rfl) (hD.sub (ws' := [(h0, .inr (11, fs)), (a0, .inl (cZ, 8, .inl (fun _ => 0)))]) [0, 1] (by decide) rfl) hN hZ hS hFc hU hW⟩⟩ rfl rfl hl.1 rfl (lv_room (Nat.le_of_ble_eq_true rfl)) dX9_write_16 ⟨Nat.le_of_ble_eq_true rfl, Nat.le_of_ble_eq_true rfl⟩) hS (fun q _ h => hFc q h) hFc (fun r_11 u t H1 locs ht hvm hw_12 hB hz1 hk1 hS => ?_)
      obtain ⟨hP, hD, hK⟩ := Bq.join (wr := []) hB ht hvm hP hD [0, 1] [] rfl rfl (by decide) (by decide) hk1 hFc hK
      generalize H1 = H at hP hS ⊢
      have hP : va_P (dC, dI) vwCl [] H := hP
      have hD : va_D A [] := hD
      have hK : va_K (dC, dI) vwCl [(cZ, .boolean)] s := hK
      try dsimp only at hw_12
      have k_13 := hw_12
      refine W_toi (y := 0) k_13 ?_
      refine lv_if_ne (tgt := 24) hx hb dX9_write_19 (by decide) (fun c_14 => absurd (by decide) c_14) (fun c_14 => ?_)
      refine lv_iconst (v := (-1)) hx hb dX9_write_22 (by decide) ?_
      have hP9 := hP.sub (ws' := []) [] rfl
      have hD9 := hD.sub (ws' := []) [] (by decide) rfl
      have hK9 := hK.sub (tys' := []) [] rfl
      exact W.iret (v := (-1)) hx hb hr (fun t ht hW => ⟨⟨(-1), (), rfl, rfl, by rw [ht]; exact hP9, va_K.moved hW.alike hK9, hD9⟩, hS.F ht⟩) hS.2.2 dX9_write_23
def wp_X9_open : List Cond := .code yX9_open cX9_open 8 (some .int) :: ([.methodLink RX9 249 yX9_isRecord, .static yX9_isRecord, .initialized RX9, .methodLink RX9 239 yX9_isMake, .instanceMethod yX9_isMake, .selects RX9 yX9_isMake yX9_isMake, .code yX9_isRecord cX9_isRecord 1 (some .boolean), .code yX9_isMake cX9_isMake 2 (some .boolean), .fieldLink RX9 7 "RecordBenchModel" "told" "[Z"] ++ wsX90)
set_option maxRecDepth 20000 in
theorem gp_X9_open_X9_isRecord_249 : GoodIn wp_X9_open (wsS RX9 249 yX9_isRecord wp_X9_isRecord) := goodIn_p _ [7] rfl (by decide +kernel)
set_option maxRecDepth 20000 in
theorem gp_X9_open_X9_isMake_239 : GoodIn wp_X9_open (wsV RX9 239 RX9 yX9_isMake wp_X9_isMake) := goodIn_p _ [8] rfl (by decide +kernel)
set_option maxHeartbeats 4000000 in
set_option maxRecDepth 100000 in
theorem c_X9_open (l : Launch) (dC : Nat → ClassId) (dI : Nat → Nat → Nat) (h0 : Nat) (fs : List Value) (hfs : fs.length = 60) (a0 : Nat) (cZ : ClassId) (fh0 : fs[0]? = some (.ref a0)) (p0 : Int32) (p1 : Int32) (p2 : Int32) (p3 : Int32) (sz : Nat) : Met l yX9_open wp_X9_open ({ frames := 1, cells := 0, slots := 0, locals := 25 }) (va_Pc [.ref h0, .int p0, .int p1, .int p2, .int p3] (Pr (dC, dI) [(cZ, .boolean)] [(h0, .inr (11, fs)), (a0, .inl (cZ, 8, .inl (fun _ => 0)))] sz)) (va_Qi (fun r : Int32 => (fun _ : Unit => r = -1)) (Bq (dC, dI) (fun _ : Unit => []) (fun _ : Unit => []) (va_A [(h0, .inr (11, fs)), (a0, .inl (cZ, 8, .inl (fun _ => 0)))] sz)) (va_A [(h0, .inr (11, fs)), (a0, .inl (cZ, 8, .inl (fun _ => 0)))] sz)) 0 0 (va_A [(h0, .inr (11, fs)), (a0, .inl (cZ, 8, .inl (fun _ => 0)))] sz) := by
  refine Met.ofW (cc := cX9_open) (maxL := 8) (ret := (some .int)) (by decide) rfl ?_
  intro p e s m args below meth c s₁ B hml hv
  obtain ⟨rfl, hsz, hP, hK, hD0, hN, hZ⟩ := hv
  have hx := B.exec
  have hb := B.bytes
  have hr := B.returns
  have hts := atoms_spec (ws := wp_X9_open) B.pre
  have hown : s.vm.findClass RX9 = some m.cls := findClass_of_methodNamed B.named
  have hlocks := B.notSynchronized
  subst hsz
  have hD := hD0.self (sz := s.heap.size)
  generalize hAe : va_A [(h0, .inr (11, fs)), (a0, .inl (cZ, 8, .inl (fun _ => 0)))] s.heap.size = A at hD hZ ⊢
  have hA : ∀ q : Nat, s.heap.size ≤ q → A q := fun q h => by rw [← hAe]; exact Or.inr h
  have hS : va_S A s.heap s.heap [] := va_S.rf
  have hP : va_P (dC, dI) vwCl [(h0, .inr (11, fs)), (a0, .inl (cZ, 8, .inl (fun _ => 0)))] s.heap := hP
  have hl := lv_entry ([.ref h0, .int p0, .int p1, .int p2, .int p3]) (n := 8) (Nat.le_of_ble_eq_true rfl)
  rw [lg_entry_eq]
  generalize (lg_sl ([.ref h0, .int p0, .int p1, .int p2, .int p3]) ++ List.replicate (8 - (lg_sl ([.ref h0, .int p0, .int p1, .int p2, .int p3])).length) Slot.unset).toArray = ls at hl ⊢
  have hl : lv_has ls 8 [(0, .ref h0), (1, .int p0), (2, .int p1), (3, .int p2), (4, .int p3)] := hl
  refine lv_iload_n hx hb dX9_open_0 rfl (lv_at hl 1 rfl) ?_
  have hFc := va_free (wc := []) hD hS hA [] rfl
  refine va_calli (va_runS (As := [.int p0]) (rest := []) ⟨hx, hb, hml, hown, hts⟩ (c_X9_isRecord l dC dI p0 s.heap.size) (cwS 1 hts gp_X9_open_X9_isRecord_249 rfl rfl rfl (by decide +kernel) ⟨Nat.le_of_ble_eq_true rfl, Nat.le_of_ble_eq_true rfl⟩) ⟨Pr.blind _, fun U hU hW => ⟨rfl, Pr.at (hP.sub (ws' := []) [] rfl) (hK.sub (tys' := []) [] rfl) (hD.sub (ws' := []) [] (by decide) rfl) hN hZ hS hFc hU hW⟩⟩ rfl rfl hl.1 rfl (lv_room (Nat.le_of_ble_eq_true rfl)) dX9_open_1 ⟨Nat.le_of_ble_eq_true rfl, Nat.le_of_ble_eq_true rfl⟩) hS (fun q _ h => hFc q h) hFc (fun r_1 u t H1 locs ht hvm hw_2 hB hz1 hk1 hS => ?_)
  obtain ⟨hP, hD, hK⟩ := Bq.join (wr := [(h0, .inr (11, fs)), (a0, .inl (cZ, 8, .inl (fun _ => 0)))]) hB ht hvm hP hD [] [0, 1] rfl rfl (by decide) (by decide) hk1 hFc hK
  generalize H1 = H at hP hS ⊢
  have hP : va_P (dC, dI) vwCl [(h0, .inr (11, fs)), (a0, .inl (cZ, 8, .inl (fun _ => 0)))] H := hP
  have hD : va_D A [(h0, .inr (11, fs)), (a0, .inl (cZ, 8, .inl (fun _ => 0)))] := hD
  have hK : va_K (dC, dI) vwCl [(cZ, .boolean)] s := hK
  try dsimp only at hw_2
  have k_3 := hw_2
  rcases k_3 with ⟨ho, rfl⟩ | ⟨ho, rfl⟩
  · refine W.eq (g2 := F0 m 4 ls [.int 0]) rfl ?_
    refine lv_if_eq (tgt := 48) hx hb dX9_open_4 (by decide) (fun c_4 => ?_) (fun c_4 => absurd (by decide) c_4)
    refine lv_iconst (v := (-1)) hx hb dX9_open_48 (by decide) ?_
    have hP9 := hP.sub (ws' := []) [] rfl
    have hD9 := hD.sub (ws' := []) [] (by decide) rfl
    have hK9 := hK.sub (tys' := []) [] rfl
    exact W.iret (v := (-1)) hx hb hr (fun t ht hW => ⟨⟨(-1), (), rfl, rfl, by rw [ht]; exact hP9, va_K.moved hW.alike hK9, hD9⟩, hS.F ht⟩) hS.2.2 dX9_open_49
  · refine W.eq (g2 := F0 m 4 ls [.int 1]) rfl ?_
    refine lv_if_eq (tgt := 48) hx hb dX9_open_4 (by decide) (fun c_5 => absurd c_5 (by decide)) (fun c_5 => ?_)
    refine lv_iload hx hb dX9_open_7 (lv_at hl 4 rfl) ?_
    have hFc := va_free (wc := []) hD hS hA [] rfl
    refine va_calli (va_runS (As := [.int p3]) (rest := []) ⟨hx, hb, hml, hown, hts⟩ (c_X9_isRecord l dC dI p3 H.size) (cwS 1 hts gp_X9_open_X9_isRecord_249 rfl rfl rfl (by decide +kernel) ⟨Nat.le_of_ble_eq_true rfl, Nat.le_of_ble_eq_true rfl⟩) ⟨Pr.blind _, fun U hU hW => ⟨rfl, Pr.at (hP.sub (ws' := []) [] rfl) (hK.sub (tys' := []) [] rfl) (hD.sub (ws' := []) [] (by decide) rfl) hN hZ hS hFc hU hW⟩⟩ rfl rfl hl.1 rfl (lv_room (Nat.le_of_ble_eq_true rfl)) dX9_open_9 ⟨Nat.le_of_ble_eq_true rfl, Nat.le_of_ble_eq_true rfl⟩) hS (fun q _ h => hFc q h) hFc (fun r_6 u t H1 locs ht hvm hw_7 hB hz1 hk1 hS => ?_)
    obtain ⟨hP, hD, hK⟩ := Bq.join (wr := [(h0, .inr (11, fs)), (a0, .inl (cZ, 8, .inl (fun _ => 0)))]) hB ht hvm hP hD [] [0, 1] rfl rfl (by decide) (by decide) hk1 hFc hK
    generalize H1 = H at hP hS ⊢
    have hP : va_P (dC, dI) vwCl [(h0, .inr (11, fs)), (a0, .inl (cZ, 8, .inl (fun _ => 0)))] H := hP
    have hD : va_D A [(h0, .inr (11, fs)), (a0, .inl (cZ, 8, .inl (fun _ => 0)))] := hD
    have hK : va_K (dC, dI) vwCl [(cZ, .boolean)] s := hK
    try dsimp only at hw_7
    have k_8 := hw_7
    rcases k_8 with ⟨ho, rfl⟩ | ⟨ho, rfl⟩
    · refine W.eq (g2 := F0 m 12 ls [.int 0]) rfl ?_
      refine lv_if_eq (tgt := 48) hx hb dX9_open_12 (by decide) (fun c_9 => ?_) (fun c_9 => absurd (by decide) c_9)
      refine lv_iconst (v := (-1)) hx hb dX9_open_48 (by decide) ?_
      have hP9 := hP.sub (ws' := []) [] rfl
      have hD9 := hD.sub (ws' := []) [] (by decide) rfl
      have hK9 := hK.sub (tys' := []) [] rfl
      exact W.iret (v := (-1)) hx hb hr (fun t ht hW => ⟨⟨(-1), (), rfl, rfl, by rw [ht]; exact hP9, va_K.moved hW.alike hK9, hD9⟩, hS.F ht⟩) hS.2.2 dX9_open_49
    · refine W.eq (g2 := F0 m 12 ls [.int 1]) rfl ?_
      refine lv_if_eq (tgt := 48) hx hb dX9_open_12 (by decide) (fun c_10 => absurd c_10 (by decide)) (fun c_10 => ?_)
      refine lv_aload_n hx hb dX9_open_15 rfl (lv_at hl 0 rfl) ?_
      refine lv_iload_n hx hb dX9_open_16 rfl (lv_at hl 2 rfl) ?_
      have hFc := va_free (wc := [(h0, .inr (11, fs)), (a0, .inl (cZ, 8, .inl (fun _ => 0)))]) hD hS hA [0, 1] rfl
      refine va_calli (va_runV (As := [.int p1]) (rest := []) ⟨hx, hb, hml, hown, hts⟩ (c_X9_isMake l dC dI h0 fs hfs a0 cZ fh0 p1 H.size) (cwV 1 hts gp_X9_open_X9_isMake_239 rfl rfl rfl (by decide +kernel) ⟨Nat.le_of_ble_eq_true rfl, Nat.le_of_ble_eq_true rfl⟩) ⟨Pr.blind _, va_recv hK hP (ci := 11) (q0 := 0) rfl rfl, fun U hU hW => ⟨rfl, Pr.at (hP.sub (ws' := [(h0, .inr (11, fs)), (a0, .inl (cZ, 8, .inl (fun _ => 0)))]) [0, 1] rfl) (hK.sub (tys' := [(cZ, .boolean)]) [0] rfl) (hD.sub (ws' := [(h0, .inr (11, fs)), (a0, .inl (cZ, 8, .inl (fun _ => 0)))]) [0, 1] (by decide) rfl) hN hZ hS hFc hU hW⟩⟩ rfl rfl hl.1 rfl (lv_room (Nat.le_of_ble_eq_true rfl)) dX9_open_17 ⟨Nat.le_of_ble_eq_true rfl, Nat.le_of_ble_eq_true rfl⟩) hS (fun q _ h => hFc q h) hFc (fun r_11 u t H1 locs ht hvm hw_12 hB hz1 hk1 hS => ?_)
      obtain ⟨hP, hD, hK⟩ := Bq.join (wr := []) hB ht hvm hP hD [0, 1] [] rfl rfl (by decide) (by decide) hk1 hFc hK
      generalize H1 = H at hP hS ⊢
      have hP : va_P (dC, dI) vwCl [] H := hP
      have hD : va_D A [] := hD
      have hK : va_K (dC, dI) vwCl [(cZ, .boolean)] s := hK
      try dsimp only at hw_12
      have k_13 := hw_12
      refine W_toi (y := 0) k_13 ?_
      refine lv_if_eq (tgt := 48) hx hb dX9_open_20 (by decide) (fun c_14 => ?_) (fun c_14 => absurd (by decide) c_14)
      refine lv_iconst (v := (-1)) hx hb dX9_open_48 (by decide) ?_
      have hP9 := hP.sub (ws' := []) [] rfl
      have hD9 := hD.sub (ws' := []) [] (by decide) rfl
      have hK9 := hK.sub (tys' := []) [] rfl
      exact W.iret (v := (-1)) hx hb hr (fun t ht hW => ⟨⟨(-1), (), rfl, rfl, by rw [ht]; exact hP9, va_K.moved hW.alike hK9, hD9⟩, hS.F ht⟩) hS.2.2 dX9_open_49
def wp_X9_walk : List Cond := .code yX9_walk cX9_walk 4 (some .int) :: ([.methodLink RX9 239 yX9_isMake, .instanceMethod yX9_isMake, .selects RX9 yX9_isMake yX9_isMake, .initialized RX9, .code yX9_isMake cX9_isMake 2 (some .boolean), .fieldLink RX9 7 "RecordBenchModel" "told" "[Z"] ++ wsX90)
set_option maxRecDepth 20000 in
theorem gp_X9_walk_X9_isMake_239 : GoodIn wp_X9_walk (wsV RX9 239 RX9 yX9_isMake wp_X9_isMake) := goodIn_p _ [5] rfl (by decide +kernel)
set_option maxHeartbeats 4000000 in
set_option maxRecDepth 100000 in
theorem c_X9_walk (l : Launch) (dC : Nat → ClassId) (dI : Nat → Nat → Nat) (h0 : Nat) (fs : List Value) (hfs : fs.length = 60) (a0 : Nat) (cZ : ClassId) (fh0 : fs[0]? = some (.ref a0)) (p0 : Int32) (p1 : Int32) (p2 : Int32) (sz : Nat) : Met l yX9_walk wp_X9_walk ({ frames := 1, cells := 0, slots := 0, locals := 25 }) (va_Pc [.ref h0, .int p0, .int p1, .int p2] (Pr (dC, dI) [(cZ, .boolean)] [(h0, .inr (11, fs)), (a0, .inl (cZ, 8, .inl (fun _ => 0)))] sz)) (va_Qi (fun r : Int32 => (fun _ : Unit => r = -1)) (Bq (dC, dI) (fun _ : Unit => []) (fun _ : Unit => []) (va_A [(h0, .inr (11, fs)), (a0, .inl (cZ, 8, .inl (fun _ => 0)))] sz)) (va_A [(h0, .inr (11, fs)), (a0, .inl (cZ, 8, .inl (fun _ => 0)))] sz)) 0 0 (va_A [(h0, .inr (11, fs)), (a0, .inl (cZ, 8, .inl (fun _ => 0)))] sz) := by
  refine Met.ofW (cc := cX9_walk) (maxL := 4) (ret := (some .int)) (by decide) rfl ?_
  intro p e s m args below meth c s₁ B hml hv
  obtain ⟨rfl, hsz, hP, hK, hD0, hN, hZ⟩ := hv
  have hx := B.exec
  have hb := B.bytes
  have hr := B.returns
  have hts := atoms_spec (ws := wp_X9_walk) B.pre
  have hown : s.vm.findClass RX9 = some m.cls := findClass_of_methodNamed B.named
  have hlocks := B.notSynchronized
  subst hsz
  have hD := hD0.self (sz := s.heap.size)
  generalize hAe : va_A [(h0, .inr (11, fs)), (a0, .inl (cZ, 8, .inl (fun _ => 0)))] s.heap.size = A at hD hZ ⊢
  have hA : ∀ q : Nat, s.heap.size ≤ q → A q := fun q h => by rw [← hAe]; exact Or.inr h
  have hS : va_S A s.heap s.heap [] := va_S.rf
  have hP : va_P (dC, dI) vwCl [(h0, .inr (11, fs)), (a0, .inl (cZ, 8, .inl (fun _ => 0)))] s.heap := hP
  have hl := lv_entry ([.ref h0, .int p0, .int p1, .int p2]) (n := 4) (Nat.le_of_ble_eq_true rfl)
  rw [lg_entry_eq]
  generalize (lg_sl ([.ref h0, .int p0, .int p1, .int p2]) ++ List.replicate (4 - (lg_sl ([.ref h0, .int p0, .int p1, .int p2])).length) Slot.unset).toArray = ls at hl ⊢
  have hl : lv_has ls 4 [(0, .ref h0), (1, .int p0), (2, .int p1), (3, .int p2)] := hl
  refine lv_aload_n hx hb dX9_walk_0 rfl (lv_at hl 0 rfl) ?_
  refine lv_iload_n hx hb dX9_walk_1 rfl (lv_at hl 1 rfl) ?_
  have hFc := va_free (wc := [(h0, .inr (11, fs)), (a0, .inl (cZ, 8, .inl (fun _ => 0)))]) hD hS hA [0, 1] rfl
  refine va_calli (va_runV (As := [.int p0]) (rest := []) ⟨hx, hb, hml, hown, hts⟩ (c_X9_isMake l dC dI h0 fs hfs a0 cZ fh0 p0 s.heap.size) (cwV 1 hts gp_X9_walk_X9_isMake_239 rfl rfl rfl (by decide +kernel) ⟨Nat.le_of_ble_eq_true rfl, Nat.le_of_ble_eq_true rfl⟩) ⟨Pr.blind _, va_recv hK hP (ci := 11) (q0 := 0) rfl rfl, fun U hU hW => ⟨rfl, Pr.at (hP.sub (ws' := [(h0, .inr (11, fs)), (a0, .inl (cZ, 8, .inl (fun _ => 0)))]) [0, 1] rfl) (hK.sub (tys' := [(cZ, .boolean)]) [0] rfl) (hD.sub (ws' := [(h0, .inr (11, fs)), (a0, .inl (cZ, 8, .inl (fun _ => 0)))]) [0, 1] (by decide) rfl) hN hZ hS hFc hU hW⟩⟩ rfl rfl hl.1 rfl (lv_room (Nat.le_of_ble_eq_true rfl)) dX9_walk_2 ⟨Nat.le_of_ble_eq_true rfl, Nat.le_of_ble_eq_true rfl⟩) hS (fun q _ h => hFc q h) hFc (fun r_1 u t H1 locs ht hvm hw_2 hB hz1 hk1 hS => ?_)
  obtain ⟨hP, hD, hK⟩ := Bq.join (wr := []) hB ht hvm hP hD [0, 1] [] rfl rfl (by decide) (by decide) hk1 hFc hK
  generalize H1 = H at hP hS ⊢
  have hP : va_P (dC, dI) vwCl [] H := hP
  have hD : va_D A [] := hD
  have hK : va_K (dC, dI) vwCl [(cZ, .boolean)] s := hK
  try dsimp only at hw_2
  have k_3 := hw_2
  refine W_toi (y := 0) k_3 ?_
  refine lv_if_eq (tgt := 24) hx hb dX9_walk_5 (by decide) (fun c_4 => ?_) (fun c_4 => absurd (by decide) c_4)
  refine lv_iconst (v := (-1)) hx hb dX9_walk_24 (by decide) ?_
  have hP9 := hP.sub (ws' := []) [] rfl
  have hD9 := hD.sub (ws' := []) [] (by decide) rfl
  have hK9 := hK.sub (tys' := []) [] rfl
  exact W.iret (v := (-1)) hx hb hr (fun t ht hW => ⟨⟨(-1), (), rfl, rfl, by rw [ht]; exact hP9, va_K.moved hW.alike hK9, hD9⟩, hS.F ht⟩) hS.2.2 dX9_walk_25
def wp_X9_step : List Cond := .code yX9_step cX9_step 3 (some .int) :: ([.methodLink RX9 380 yX9_walk, .instanceMethod yX9_walk, .selects RX9 yX9_walk yX9_walk, .initialized RX9, .code yX9_walk cX9_walk 4 (some .int), .methodLink RX9 239 yX9_isMake, .instanceMethod yX9_isMake, .selects RX9 yX9_isMake yX9_isMake, .code yX9_isMake cX9_isMake 2 (some .boolean), .fieldLink RX9 7 "RecordBenchModel" "told" "[Z"] ++ wsX90)
set_option maxRecDepth 20000 in
theorem gp_X9_step_X9_walk_380 : GoodIn wp_X9_step (wsV RX9 380 RX9 yX9_walk wp_X9_walk) := goodIn_p _ [5, 9] rfl (by decide +kernel)
set_option maxHeartbeats 4000000 in
set_option maxRecDepth 100000 in
theorem c_X9_step (l : Launch) (dC : Nat → ClassId) (dI : Nat → Nat → Nat) (h0 : Nat) (fs : List Value) (hfs : fs.length = 60) (a0 : Nat) (cZ : ClassId) (fh0 : fs[0]? = some (.ref a0)) (p0 : Int32) (p1 : Int32) (sz : Nat) : Met l yX9_step wp_X9_step ({ frames := 2, cells := 0, slots := 0, locals := 52 }) (va_Pc [.ref h0, .int p0, .int p1] (Pr (dC, dI) [(cZ, .boolean)] [(h0, .inr (11, fs)), (a0, .inl (cZ, 8, .inl (fun _ => 0)))] sz)) (va_Qi (fun r : Int32 => (fun _ : Unit => r = -1)) (Bq (dC, dI) (fun _ : Unit => []) (fun _ : Unit => []) (va_A [(h0, .inr (11, fs)), (a0, .inl (cZ, 8, .inl (fun _ => 0)))] sz)) (va_A [(h0, .inr (11, fs)), (a0, .inl (cZ, 8, .inl (fun _ => 0)))] sz)) 0 0 (va_A [(h0, .inr (11, fs)), (a0, .inl (cZ, 8, .inl (fun _ => 0)))] sz) := by
  refine Met.ofW (cc := cX9_step) (maxL := 3) (ret := (some .int)) (by decide) rfl ?_
  intro p e s m args below meth c s₁ B hml hv
  obtain ⟨rfl, hsz, hP, hK, hD0, hN, hZ⟩ := hv
  have hx := B.exec
  have hb := B.bytes
  have hr := B.returns
  have hts := atoms_spec (ws := wp_X9_step) B.pre
  have hown : s.vm.findClass RX9 = some m.cls := findClass_of_methodNamed B.named
  have hlocks := B.notSynchronized
  subst hsz
  have hD := hD0.self (sz := s.heap.size)
  generalize hAe : va_A [(h0, .inr (11, fs)), (a0, .inl (cZ, 8, .inl (fun _ => 0)))] s.heap.size = A at hD hZ ⊢
  have hA : ∀ q : Nat, s.heap.size ≤ q → A q := fun q h => by rw [← hAe]; exact Or.inr h
  have hS : va_S A s.heap s.heap [] := va_S.rf
  have hP : va_P (dC, dI) vwCl [(h0, .inr (11, fs)), (a0, .inl (cZ, 8, .inl (fun _ => 0)))] s.heap := hP
  have hl := lv_entry ([.ref h0, .int p0, .int p1]) (n := 3) (Nat.le_of_ble_eq_true rfl)
  rw [lg_entry_eq]
  generalize (lg_sl ([.ref h0, .int p0, .int p1]) ++ List.replicate (3 - (lg_sl ([.ref h0, .int p0, .int p1])).length) Slot.unset).toArray = ls at hl ⊢
  have hl : lv_has ls 3 [(0, .ref h0), (1, .int p0), (2, .int p1)] := hl
  refine lv_aload_n hx hb dX9_step_0 rfl (lv_at hl 0 rfl) ?_
  refine lv_iload_n hx hb dX9_step_1 rfl (lv_at hl 1 rfl) ?_
  refine lv_iload_n hx hb dX9_step_2 rfl (lv_at hl 2 rfl) ?_
  refine lv_iload_n hx hb dX9_step_3 rfl (lv_at hl 2 rfl) ?_
  have hFc := va_free (wc := [(h0, .inr (11, fs)), (a0, .inl (cZ, 8, .inl (fun _ => 0)))]) hD hS hA [0, 1] rfl
  refine va_calli (va_runV (As := [.int p0, .int p1, .int p1]) (rest := []) ⟨hx, hb, hml, hown, hts⟩ (c_X9_walk l dC dI h0 fs hfs a0 cZ fh0 p0 p1 p1 s.heap.size) (cwV 3 hts gp_X9_step_X9_walk_380 rfl rfl rfl (by decide +kernel) ⟨Nat.le_of_ble_eq_true rfl, Nat.le_of_ble_eq_true rfl⟩) ⟨Pr.blind _, va_recv hK hP (ci := 11) (q0 := 0) rfl rfl, fun U hU hW => ⟨rfl, Pr.at (hP.sub (ws' := [(h0, .inr (11, fs)), (a0, .inl (cZ, 8, .inl (fun _ => 0)))]) [0, 1] rfl) (hK.sub (tys' := [(cZ, .boolean)]) [0] rfl) (hD.sub (ws' := [(h0, .inr (11, fs)), (a0, .inl (cZ, 8, .inl (fun _ => 0)))]) [0, 1] (by decide) rfl) hN hZ hS hFc hU hW⟩⟩ rfl rfl hl.1 rfl (lv_room (Nat.le_of_ble_eq_true rfl)) dX9_step_4 ⟨Nat.le_of_ble_eq_true rfl, Nat.le_of_ble_eq_true rfl⟩) hS (fun q _ h => hFc q h) hFc (fun r_1 u t H1 locs ht hvm hw_2 hB hz1 hk1 hS => ?_)
  obtain ⟨hP, hD, hK⟩ := Bq.join (wr := []) hB ht hvm hP hD [0, 1] [] rfl rfl (by decide) (by decide) hk1 hFc hK
  generalize H1 = H at hP hS ⊢
  have hP : va_P (dC, dI) vwCl [] H := hP
  have hD : va_D A [] := hD
  have hK : va_K (dC, dI) vwCl [(cZ, .boolean)] s := hK
  try dsimp only at hw_2
  have k_3 := hw_2
  refine W_toi (y := -1) k_3 ?_
  have hP9 := hP.sub (ws' := []) [] rfl
  have hD9 := hD.sub (ws' := []) [] (by decide) rfl
  have hK9 := hK.sub (tys' := []) [] rfl
  exact W.iret (v := -1) hx hb hr (fun t ht hW => ⟨⟨-1, (), rfl, rfl, by rw [ht]; exact hP9, va_K.moved hW.alike hK9, hD9⟩, hS.F ht⟩) hS.2.2 dX9_step_7
def wp_X9_readers : List Cond := .code yX9_readers cX9_readers 4 (some .int) :: ([.methodLink RX9 239 yX9_isMake, .instanceMethod yX9_isMake, .selects RX9 yX9_isMake yX9_isMake, .initialized RX9, .code yX9_isMake cX9_isMake 2 (some .boolean), .fieldLink RX9 7 "RecordBenchModel" "told" "[Z"] ++ wsX90)
set_option maxRecDepth 20000 in
theorem gp_X9_readers_X9_isMake_239 : GoodIn wp_X9_readers (wsV RX9 239 RX9 yX9_isMake wp_X9_isMake) := goodIn_p _ [5] rfl (by decide +kernel)
set_option maxHeartbeats 4000000 in
set_option maxRecDepth 100000 in
theorem c_X9_readers (l : Launch) (dC : Nat → ClassId) (dI : Nat → Nat → Nat) (h0 : Nat) (fs : List Value) (hfs : fs.length = 60) (a0 : Nat) (cZ : ClassId) (fh0 : fs[0]? = some (.ref a0)) (p0 : Int32) (sz : Nat) : Met l yX9_readers wp_X9_readers ({ frames := 1, cells := 0, slots := 0, locals := 25 }) (va_Pc [.ref h0, .int p0] (Pr (dC, dI) [(cZ, .boolean)] [(h0, .inr (11, fs)), (a0, .inl (cZ, 8, .inl (fun _ => 0)))] sz)) (va_Qi (fun r : Int32 => (fun _ : Unit => r = -1)) (Bq (dC, dI) (fun _ : Unit => []) (fun _ : Unit => []) (va_A [(h0, .inr (11, fs)), (a0, .inl (cZ, 8, .inl (fun _ => 0)))] sz)) (va_A [(h0, .inr (11, fs)), (a0, .inl (cZ, 8, .inl (fun _ => 0)))] sz)) 0 0 (va_A [(h0, .inr (11, fs)), (a0, .inl (cZ, 8, .inl (fun _ => 0)))] sz) := by
  refine Met.ofW (cc := cX9_readers) (maxL := 4) (ret := (some .int)) (by decide) rfl ?_
  intro p e s m args below meth c s₁ B hml hv
  obtain ⟨rfl, hsz, hP, hK, hD0, hN, hZ⟩ := hv
  have hx := B.exec
  have hb := B.bytes
  have hr := B.returns
  have hts := atoms_spec (ws := wp_X9_readers) B.pre
  have hown : s.vm.findClass RX9 = some m.cls := findClass_of_methodNamed B.named
  have hlocks := B.notSynchronized
  subst hsz
  have hD := hD0.self (sz := s.heap.size)
  generalize hAe : va_A [(h0, .inr (11, fs)), (a0, .inl (cZ, 8, .inl (fun _ => 0)))] s.heap.size = A at hD hZ ⊢
  have hA : ∀ q : Nat, s.heap.size ≤ q → A q := fun q h => by rw [← hAe]; exact Or.inr h
  have hS : va_S A s.heap s.heap [] := va_S.rf
  have hP : va_P (dC, dI) vwCl [(h0, .inr (11, fs)), (a0, .inl (cZ, 8, .inl (fun _ => 0)))] s.heap := hP
  have hl := lv_entry ([.ref h0, .int p0]) (n := 4) (Nat.le_of_ble_eq_true rfl)
  rw [lg_entry_eq]
  generalize (lg_sl ([.ref h0, .int p0]) ++ List.replicate (4 - (lg_sl ([.ref h0, .int p0])).length) Slot.unset).toArray = ls at hl ⊢
  have hl : lv_has ls 4 [(0, .ref h0), (1, .int p0)] := hl
  refine lv_aload_n hx hb dX9_readers_0 rfl (lv_at hl 0 rfl) ?_
  refine lv_iload_n hx hb dX9_readers_1 rfl (lv_at hl 1 rfl) ?_
  have hFc := va_free (wc := [(h0, .inr (11, fs)), (a0, .inl (cZ, 8, .inl (fun _ => 0)))]) hD hS hA [0, 1] rfl
  refine va_calli (va_runV (As := [.int p0]) (rest := []) ⟨hx, hb, hml, hown, hts⟩ (c_X9_isMake l dC dI h0 fs hfs a0 cZ fh0 p0 s.heap.size) (cwV 1 hts gp_X9_readers_X9_isMake_239 rfl rfl rfl (by decide +kernel) ⟨Nat.le_of_ble_eq_true rfl, Nat.le_of_ble_eq_true rfl⟩) ⟨Pr.blind _, va_recv hK hP (ci := 11) (q0 := 0) rfl rfl, fun U hU hW => ⟨rfl, Pr.at (hP.sub (ws' := [(h0, .inr (11, fs)), (a0, .inl (cZ, 8, .inl (fun _ => 0)))]) [0, 1] rfl) (hK.sub (tys' := [(cZ, .boolean)]) [0] rfl) (hD.sub (ws' := [(h0, .inr (11, fs)), (a0, .inl (cZ, 8, .inl (fun _ => 0)))]) [0, 1] (by decide) rfl) hN hZ hS hFc hU hW⟩⟩ rfl rfl hl.1 rfl (lv_room (Nat.le_of_ble_eq_true rfl)) dX9_readers_2 ⟨Nat.le_of_ble_eq_true rfl, Nat.le_of_ble_eq_true rfl⟩) hS (fun q _ h => hFc q h) hFc (fun r_1 u t H1 locs ht hvm hw_2 hB hz1 hk1 hS => ?_)
  obtain ⟨hP, hD, hK⟩ := Bq.join (wr := []) hB ht hvm hP hD [0, 1] [] rfl rfl (by decide) (by decide) hk1 hFc hK
  generalize H1 = H at hP hS ⊢
  have hP : va_P (dC, dI) vwCl [] H := hP
  have hD : va_D A [] := hD
  have hK : va_K (dC, dI) vwCl [(cZ, .boolean)] s := hK
  try dsimp only at hw_2
  have k_3 := hw_2
  refine W_toi (y := 0) k_3 ?_
  refine lv_if_ne (tgt := 10) hx hb dX9_readers_5 (by decide) (fun c_4 => absurd (by decide) c_4) (fun c_4 => ?_)
  refine lv_iconst (v := (-1)) hx hb dX9_readers_8 (by decide) ?_
  have hP9 := hP.sub (ws' := []) [] rfl
  have hD9 := hD.sub (ws' := []) [] (by decide) rfl
  have hK9 := hK.sub (tys' := []) [] rfl
  exact W.iret (v := (-1)) hx hb hr (fun t ht hW => ⟨⟨(-1), (), rfl, rfl, by rw [ht]; exact hP9, va_K.moved hW.alike hK9, hD9⟩, hS.F ht⟩) hS.2.2 dX9_readers_9
def wp_X9_say : List Cond := .code yX9_say cX9_say 6 (some .int) :: ([.fieldLink RX9 132 "RecordBenchModel" "taped" "I", .methodLink RX9 249 yX9_isRecord, .static yX9_isRecord, .initialized RX9, .methodLink RX9 239 yX9_isMake, .instanceMethod yX9_isMake, .selects RX9 yX9_isMake yX9_isMake, .code yX9_isRecord cX9_isRecord 1 (some .boolean), .code yX9_isMake cX9_isMake 2 (some .boolean), .fieldLink RX9 7 "RecordBenchModel" "told" "[Z"] ++ wsX90)
set_option maxRecDepth 20000 in
theorem gp_X9_say_X9_isRecord_249 : GoodIn wp_X9_say (wsS RX9 249 yX9_isRecord wp_X9_isRecord) := goodIn_p _ [8] rfl (by decide +kernel)
set_option maxRecDepth 20000 in
theorem gp_X9_say_X9_isMake_239 : GoodIn wp_X9_say (wsV RX9 239 RX9 yX9_isMake wp_X9_isMake) := goodIn_p _ [9] rfl (by decide +kernel)
set_option maxHeartbeats 4000000 in
set_option maxRecDepth 100000 in
theorem c_X9_say (l : Launch) (dC : Nat → ClassId) (dI : Nat → Nat → Nat) (h0 : Nat) (fs : List Value) (hfs : fs.length = 60) (a0 : Nat) (cZ : ClassId) (fh0 : fs[0]? = some (.ref a0)) (fh10 : fs[10]? = some (.int 0)) (p0 : Int32) (p1 : Int32) (p2 : Int32) (sz : Nat) : Met l yX9_say wp_X9_say ({ frames := 1, cells := 0, slots := 0, locals := 25 }) (va_Pc [.ref h0, .int p0, .int p1, .int p2] (Pr (dC, dI) [(cZ, .boolean)] [(h0, .inr (11, fs)), (a0, .inl (cZ, 8, .inl (fun _ => 0)))] sz)) (va_Qi (fun r : Int32 => (fun _ : Unit => r = -1)) (Bq (dC, dI) (fun _ : Unit => []) (fun _ : Unit => []) (va_A [(h0, .inr (11, fs)), (a0, .inl (cZ, 8, .inl (fun _ => 0)))] sz)) (va_A [(h0, .inr (11, fs)), (a0, .inl (cZ, 8, .inl (fun _ => 0)))] sz)) 0 0 (va_A [(h0, .inr (11, fs)), (a0, .inl (cZ, 8, .inl (fun _ => 0)))] sz) := by
  refine Met.ofW (cc := cX9_say) (maxL := 6) (ret := (some .int)) (by decide) rfl ?_
  intro p e s m args below meth c s₁ B hml hv
  obtain ⟨rfl, hsz, hP, hK, hD0, hN, hZ⟩ := hv
  have hx := B.exec
  have hb := B.bytes
  have hr := B.returns
  have hts := atoms_spec (ws := wp_X9_say) B.pre
  have hown : s.vm.findClass RX9 = some m.cls := findClass_of_methodNamed B.named
  have hlocks := B.notSynchronized
  have iRX9 : ∀ w ∈ u_ws RX9 TX9 60, w ∈ wp_X9_say := by decide +kernel
  subst hsz
  have hD := hD0.self (sz := s.heap.size)
  generalize hAe : va_A [(h0, .inr (11, fs)), (a0, .inl (cZ, 8, .inl (fun _ => 0)))] s.heap.size = A at hD hZ ⊢
  have hA : ∀ q : Nat, s.heap.size ≤ q → A q := fun q h => by rw [← hAe]; exact Or.inr h
  have hS : va_S A s.heap s.heap [] := va_S.rf
  have hP : va_P (dC, dI) vwCl [(h0, .inr (11, fs)), (a0, .inl (cZ, 8, .inl (fun _ => 0)))] s.heap := hP
  have hl := lv_entry ([.ref h0, .int p0, .int p1, .int p2]) (n := 6) (Nat.le_of_ble_eq_true rfl)
  rw [lg_entry_eq]
  generalize (lg_sl ([.ref h0, .int p0, .int p1, .int p2]) ++ List.replicate (6 - (lg_sl ([.ref h0, .int p0, .int p1, .int p2])).length) Slot.unset).toArray = ls at hl ⊢
  have hl : lv_has ls 6 [(0, .ref h0), (1, .int p0), (2, .int p1), (3, .int p2)] := hl
  refine lv_aload_n hx hb dX9_say_0 rfl (lv_at hl 0 rfl) ?_
  refine va_get (D := (dC, dI)) (ci := 11) (v := .int 0) (C := RX9) (T := TX9) (N := 60) hx hb hts iRX9 hown hK hP 0 rfl rfl 10 (by decide) (hts (.fieldLink RX9 132 "RecordBenchModel" "taped" "I") (by decide +kernel)) (fun _ h9 => h9) fh10 dX9_say_1 ?_
  refine lv_istore (lv' := [(4, .int 0), (0, .ref h0), (1, .int p0), (2, .int p1), (3, .int p2)]) hx hb dX9_say_4 hl (by decide) rfl (fun ls hl => ?_)
  refine lv_aload_n hx hb dX9_say_6 rfl (lv_at hl 1 rfl) ?_
  refine lv_iconst (v := 0) hx hb dX9_say_7 (by decide) ?_
  refine va_put (D := (dC, dI)) (ci := 11) (v := .int 0) (ty := .int) (C := RX9) (T := TX9) (N := 60) hx hb hts iRX9 tyX9 tyX9_ok nmX9 hown hK hP hD hS 0 rfl rfl 10 (by decide) (hts (.fieldLink RX9 132 "RecordBenchModel" "taped" "I") (by decide +kernel)) (fun _ h9 => h9) rfl (by decide +kernel) rfl rfl (by have := hfs; omega) dX9_say_8 (fun H locs hP hD hS => ?_)
  obtain ⟨fs_1, efs_1⟩ : ∃ y, y = fs.set 10 (.int 0) := ⟨_, rfl⟩
  rw [← efs_1] at hP hD
  have lfs_1 : fs_1.length = 60 := by rw [efs_1, List.length_set]; exact hfs
  have fs_1h0 : fs_1[0]? = some (.ref a0) := by rw [efs_1, List.getElem?_set_ne (by decide)]; exact fh0
  have fs_1h10 : fs_1[10]? = some (.int 0) := by rw [efs_1, List.getElem?_set_self (by have := hfs; omega)]
  have hP : va_P (dC, dI) vwCl [(h0, .inr (11, fs_1)), (a0, .inl (cZ, 8, .inl (fun _ => 0)))] H := hP
  have hD : va_D A [(h0, .inr (11, fs_1)), (a0, .inl (cZ, 8, .inl (fun _ => 0)))] := hD
  refine lv_iload_n hx hb dX9_say_11 rfl (lv_at hl 2 rfl) ?_
  have hFc := va_free (wc := []) hD hS hA [] rfl
  refine va_calli (va_runS (As := [.int p0]) (rest := []) ⟨hx, hb, hml, hown, hts⟩ (c_X9_isRecord l dC dI p0 H.size) (cwS 1 hts gp_X9_say_X9_isRecord_249 rfl rfl rfl (by decide +kernel) ⟨Nat.le_of_ble_eq_true rfl, Nat.le_of_ble_eq_true rfl⟩) ⟨Pr.blind _, fun U hU hW => ⟨rfl, Pr.at (hP.sub (ws' := []) [] rfl) (hK.sub (tys' := []) [] rfl) (hD.sub (ws' := []) [] (by decide) rfl) hN hZ hS hFc hU hW⟩⟩ rfl rfl hl.1 rfl (lv_room (Nat.le_of_ble_eq_true rfl)) dX9_say_12 ⟨Nat.le_of_ble_eq_true rfl, Nat.le_of_ble_eq_true rfl⟩) hS (fun q _ h => hFc q h) hFc (fun r_2 u t H1 locs ht hvm hw_3 hB hz1 hk1 hS => ?_)
  obtain ⟨hP, hD, hK⟩ := Bq.join (wr := [(h0, .inr (11, fs_1)), (a0, .inl (cZ, 8, .inl (fun _ => 0)))]) hB ht hvm hP hD [] [0, 1] rfl rfl (by decide) (by decide) hk1 hFc hK
  generalize H1 = H at hP hS ⊢
  have hP : va_P (dC, dI) vwCl [(h0, .inr (11, fs_1)), (a0, .inl (cZ, 8, .inl (fun _ => 0)))] H := hP
  have hD : va_D A [(h0, .inr (11, fs_1)), (a0, .inl (cZ, 8, .inl (fun _ => 0)))] := hD
  have hK : va_K (dC, dI) vwCl [(cZ, .boolean)] s := hK
  try dsimp only at hw_3
  have k_4 := hw_3
  rcases k_4 with ⟨ho, rfl⟩ | ⟨ho, rfl⟩
  · refine W.eq (g2 := F0 m 15 ls [.int 0]) rfl ?_
    refine lv_if_eq (tgt := 50) hx hb dX9_say_15 (by decide) (fun c_5 => ?_) (fun c_5 => absurd (by decide) c_5)
    refine lv_iconst (v := (-1)) hx hb dX9_say_50 (by decide) ?_
    have hP9 := hP.sub (ws' := []) [] rfl
    have hD9 := hD.sub (ws' := []) [] (by decide) rfl
    have hK9 := hK.sub (tys' := []) [] rfl
    exact W.iret (v := (-1)) hx hb hr (fun t ht hW => ⟨⟨(-1), (), rfl, rfl, by rw [ht]; exact hP9, va_K.moved hW.alike hK9, hD9⟩, hS.F ht⟩) hS.2.2 dX9_say_51
  · refine W.eq (g2 := F0 m 15 ls [.int 1]) rfl ?_
    refine lv_if_eq (tgt := 50) hx hb dX9_say_15 (by decide) (fun c_6 => absurd c_6 (by decide)) (fun c_6 => ?_)
    refine lv_aload_n hx hb dX9_say_18 rfl (lv_at hl 1 rfl) ?_
    refine lv_iload_n hx hb dX9_say_19 rfl (lv_at hl 3 rfl) ?_
    have hFc := va_free (wc := [(h0, .inr (11, fs_1)), (a0, .inl (cZ, 8, .inl (fun _ => 0)))]) hD hS hA [0, 1] rfl
    refine va_calli (va_runV (As := [.int p1]) (rest := []) ⟨hx, hb, hml, hown, hts⟩ (c_X9_isMake l dC dI h0 fs_1 lfs_1 a0 cZ fs_1h0 p1 H.size) (cwV 1 hts gp_X9_say_X9_isMake_239 rfl rfl rfl (by decide +kernel) ⟨Nat.le_of_ble_eq_true rfl, Nat.le_of_ble_eq_true rfl⟩) ⟨Pr.blind _, va_recv hK hP (ci := 11) (q0 := 0) rfl rfl, fun U hU hW => ⟨rfl, Pr.at (hP.sub (ws' := [(h0, .inr (11, fs_1)), (a0, .inl (cZ, 8, .inl (fun _ => 0)))]) [0, 1] rfl) (hK.sub (tys' := [(cZ, .boolean)]) [0] rfl) (hD.sub (ws' := [(h0, .inr (11, fs_1)), (a0, .inl (cZ, 8, .inl (fun _ => 0)))]) [0, 1] (by decide) rfl) hN hZ hS hFc hU hW⟩⟩ rfl rfl hl.1 rfl (lv_room (Nat.le_of_ble_eq_true rfl)) dX9_say_20 ⟨Nat.le_of_ble_eq_true rfl, Nat.le_of_ble_eq_true rfl⟩) hS (fun q _ h => hFc q h) hFc (fun r_7 u t H1 locs ht hvm hw_8 hB hz1 hk1 hS => ?_)
    obtain ⟨hP, hD, hK⟩ := Bq.join (wr := []) hB ht hvm hP hD [0, 1] [] rfl rfl (by decide) (by decide) hk1 hFc hK
    generalize H1 = H at hP hS ⊢
    have hP : va_P (dC, dI) vwCl [] H := hP
    have hD : va_D A [] := hD
    have hK : va_K (dC, dI) vwCl [(cZ, .boolean)] s := hK
    try dsimp only at hw_8
    have k_9 := hw_8
    refine W_toi (y := 0) k_9 ?_
    refine lv_if_eq (tgt := 50) hx hb dX9_say_23 (by decide) (fun c_10 => ?_) (fun c_10 => absurd (by decide) c_10)
    refine lv_iconst (v := (-1)) hx hb dX9_say_50 (by decide) ?_
    have hP9 := hP.sub (ws' := []) [] rfl
    have hD9 := hD.sub (ws' := []) [] (by decide) rfl
    have hK9 := hK.sub (tys' := []) [] rfl
    exact W.iret (v := (-1)) hx hb hr (fun t ht hW => ⟨⟨(-1), (), rfl, rfl, by rw [ht]; exact hP9, va_K.moved hW.alike hK9, hD9⟩, hS.F ht⟩) hS.2.2 dX9_say_51
def wp_X9_by : List Cond := .code yX9_by cX9_by 1 (some .int) :: ([.fieldLink RX9 377 "RecordBenchModel" "by" "I"] ++ wsX90)
set_option maxHeartbeats 4000000 in
set_option maxRecDepth 100000 in
theorem c_X9_by (l : Launch) (dC : Nat → ClassId) (dI : Nat → Nat → Nat) (h0 : Nat) (fs : List Value) (hfs : fs.length = 60) (fh59 : fs[59]? = some (.int 0)) (sz : Nat) : Met l yX9_by wp_X9_by ({ frames := 0, cells := 0, slots := 0, locals := 0 }) (va_Pc [.ref h0] (Pr (dC, dI) [] [(h0, .inr (11, fs))] sz)) (va_Qi (fun r : Int32 => (fun _ : Unit => r = 0)) (Bq (dC, dI) (fun _ : Unit => []) (fun _ : Unit => []) (va_A [(h0, .inr (11, fs))] sz)) (va_A [(h0, .inr (11, fs))] sz)) 0 0 (va_A [(h0, .inr (11, fs))] sz) := by
  refine Met.ofW (cc := cX9_by) (maxL := 1) (ret := (some .int)) (by decide) rfl ?_
  intro p e s m args below meth c s₁ B hml hv
  obtain ⟨rfl, hsz, hP, hK, hD0, hN, hZ⟩ := hv
  have hx := B.exec
  have hb := B.bytes
  have hr := B.returns
  have hts := atoms_spec (ws := wp_X9_by) B.pre
  have hown : s.vm.findClass RX9 = some m.cls := findClass_of_methodNamed B.named
  have hlocks := B.notSynchronized
  have iRX9 : ∀ w ∈ u_ws RX9 TX9 60, w ∈ wp_X9_by := by decide +kernel
  subst hsz
  have hD := hD0.self (sz := s.heap.size)
  generalize hAe : va_A [(h0, .inr (11, fs))] s.heap.size = A at hD hZ ⊢
  have hA : ∀ q : Nat, s.heap.size ≤ q → A q := fun q h => by rw [← hAe]; exact Or.inr h
  have hS : va_S A s.heap s.heap [] := va_S.rf
  have hP : va_P (dC, dI) vwCl [(h0, .inr (11, fs))] s.heap := hP
  have hl := lv_entry ([.ref h0]) (n := 1) (Nat.le_of_ble_eq_true rfl)
  rw [lg_entry_eq]
  generalize (lg_sl ([.ref h0]) ++ List.replicate (1 - (lg_sl ([.ref h0])).length) Slot.unset).toArray = ls at hl ⊢
  have hl : lv_has ls 1 [(0, .ref h0)] := hl
  refine lv_aload_n hx hb dX9_by_0 rfl (lv_at hl 0 rfl) ?_
  refine va_get (D := (dC, dI)) (ci := 11) (v := .int 0) (C := RX9) (T := TX9) (N := 60) hx hb hts iRX9 hown hK hP 0 rfl rfl 59 (by decide) (hts (.fieldLink RX9 377 "RecordBenchModel" "by" "I") (by decide +kernel)) (fun _ h9 => h9) fh59 dX9_by_1 ?_
  have hP9 := hP.sub (ws' := []) [] rfl
  have hD9 := hD.sub (ws' := []) [] (by decide) rfl
  have hK9 := hK.sub (tys' := []) [] rfl
  exact W.iret (v := 0) hx hb hr (fun t ht hW => ⟨⟨0, (), rfl, rfl, by rw [ht]; exact hP9, va_K.moved hW.alike hK9, hD9⟩, hS.F ht⟩) hS.2.2 dX9_by_4
def wp_X9_fault : List Cond := .code yX9_fault cX9_fault 2 (some .int) :: ([.fieldLink RX9 42 "RecordBenchModel" "faultPlace" "I", .fieldLink RX9 236 "RecordBenchModel" "fault" "I"] ++ wsX90)
set_option maxHeartbeats 4000000 in
set_option maxRecDepth 100000 in
theorem c_X9_fault (l : Launch) (dC : Nat → ClassId) (dI : Nat → Nat → Nat) (h0 : Nat) (fs : List Value) (hfs : fs.length = 60) (fh15 : fs[15]? = some (.int 0)) (fh16 : fs[16]? = some (.int ((-1)))) (p0 : Int32) (sz : Nat) : Met l yX9_fault wp_X9_fault ({ frames := 0, cells := 0, slots := 0, locals := 0 }) (va_Pc [.ref h0, .int p0] (Pr (dC, dI) [] [(h0, .inr (11, fs))] sz)) (va_Qi (fun r : Int32 => (fun _ : Unit => r = if p0 = 0 then 0 else -1)) (Bq (dC, dI) (fun _ : Unit => []) (fun _ : Unit => []) (va_A [(h0, .inr (11, fs))] sz)) (va_A [(h0, .inr (11, fs))] sz)) 0 0 (va_A [(h0, .inr (11, fs))] sz) := by
  refine Met.ofW (cc := cX9_fault) (maxL := 2) (ret := (some .int)) (by decide) rfl ?_
  intro p e s m args below meth c s₁ B hml hv
  obtain ⟨rfl, hsz, hP, hK, hD0, hN, hZ⟩ := hv
  have hx := B.exec
  have hb := B.bytes
  have hr := B.returns
  have hts := atoms_spec (ws := wp_X9_fault) B.pre
  have hown : s.vm.findClass RX9 = some m.cls := findClass_of_methodNamed B.named
  have hlocks := B.notSynchronized
  have iRX9 : ∀ w ∈ u_ws RX9 TX9 60, w ∈ wp_X9_fault := by decide +kernel
  subst hsz
  have hD := hD0.self (sz := s.heap.size)
  generalize hAe : va_A [(h0, .inr (11, fs))] s.heap.size = A at hD hZ ⊢
  have hA : ∀ q : Nat, s.heap.size ≤ q → A q := fun q h => by rw [← hAe]; exact Or.inr h
  have hS : va_S A s.heap s.heap [] := va_S.rf
  have hP : va_P (dC, dI) vwCl [(h0, .inr (11, fs))] s.heap := hP
  have hl := lv_entry ([.ref h0, .int p0]) (n := 2) (Nat.le_of_ble_eq_true rfl)
  rw [lg_entry_eq]
  generalize (lg_sl ([.ref h0, .int p0]) ++ List.replicate (2 - (lg_sl ([.ref h0, .int p0])).length) Slot.unset).toArray = ls at hl ⊢
  have hl : lv_has ls 2 [(0, .ref h0), (1, .int p0)] := hl
  refine lv_iload_n hx hb dX9_fault_0 rfl (lv_at hl 1 rfl) ?_
  refine lv_if_ne (tgt := 11) hx hb dX9_fault_1 (by decide) (fun c_1 => ?_) (fun c_1 => ?_)
  · refine lv_iload_n hx hb dX9_fault_11 rfl (lv_at hl 1 rfl) ?_
    refine lv_iconst (v := 1) hx hb dX9_fault_12 (by decide) ?_
    refine lv_icmp_ne (tgt := 23) hx hb dX9_fault_13 (by decide) (fun c_2 => ?_) (fun c_2 => ?_)
    · refine lv_iconst (v := (-1)) hx hb dX9_fault_23 (by decide) ?_
      have hP9 := hP.sub (ws' := []) [] rfl
      have hD9 := hD.sub (ws' := []) [] (by decide) rfl
      have hK9 := hK.sub (tys' := []) [] rfl
      exact W.iret (v := (-1)) hx hb hr (fun t ht hW => ⟨⟨(-1), (), rfl, (if_neg c_1).symm, by rw [ht]; exact hP9, va_K.moved hW.alike hK9, hD9⟩, hS.F ht⟩) hS.2.2 dX9_fault_24
    · refine lv_aload_n hx hb dX9_fault_16 rfl (lv_at hl 0 rfl) ?_
      refine va_get (D := (dC, dI)) (ci := 11) (v := .int ((-1))) (C := RX9) (T := TX9) (N := 60) hx hb hts iRX9 hown hK hP 0 rfl rfl 16 (by decide) (hts (.fieldLink RX9 42 "RecordBenchModel" "faultPlace" "I") (by decide +kernel)) (fun _ h9 => h9) fh16 dX9_fault_17 ?_
      refine lv_goto (tgt := 24) hx hb dX9_fault_20 (by decide) ?_
      have hP9 := hP.sub (ws' := []) [] rfl
      have hD9 := hD.sub (ws' := []) [] (by decide) rfl
      have hK9 := hK.sub (tys' := []) [] rfl
      exact W.iret (v := (-1)) hx hb hr (fun t ht hW => ⟨⟨(-1), (), rfl, (if_neg c_1).symm, by rw [ht]; exact hP9, va_K.moved hW.alike hK9, hD9⟩, hS.F ht⟩) hS.2.2 dX9_fault_24
  · refine lv_aload_n hx hb dX9_fault_4 rfl (lv_at hl 0 rfl) ?_
    refine va_get (D := (dC, dI)) (ci := 11) (v := .int 0) (C := RX9) (T := TX9) (N := 60) hx hb hts iRX9 hown hK hP 0 rfl rfl 15 (by decide) (hts (.fieldLink RX9 236 "RecordBenchModel" "fault" "I") (by decide +kernel)) (fun _ h9 => h9) fh15 dX9_fault_5 ?_
    refine lv_goto (tgt := 24) hx hb dX9_fault_8 (by decide) ?_
    have hP9 := hP.sub (ws' := []) [] rfl
    have hD9 := hD.sub (ws' := []) [] (by decide) rfl
    have hK9 := hK.sub (tys' := []) [] rfl
    exact W.iret (v := 0) hx hb hr (fun t ht hW => ⟨⟨0, (), rfl, (if_pos c_1).symm, by rw [ht]; exact hP9, va_K.moved hW.alike hK9, hD9⟩, hS.F ht⟩) hS.2.2 dX9_fault_24
def wp_X9_end : List Cond := .code yX9_end cX9_end 2 (some .boolean) :: ([.fieldLink RX9 132 "RecordBenchModel" "taped" "I"] ++ wsX90)
set_option maxHeartbeats 4000000 in
set_option maxRecDepth 100000 in
theorem c_X9_end (l : Launch) (dC : Nat → ClassId) (dI : Nat → Nat → Nat) (h0 : Nat) (fs : List Value) (hfs : fs.length = 60) (fh10 : fs[10]? = some (.int 0)) (p0 : Int32) (sz : Nat) : Met l yX9_end wp_X9_end ({ frames := 0, cells := 0, slots := 0, locals := 0 }) (va_Pc [.ref h0, .int p0] (Pr (dC, dI) [] [(h0, .inr (11, fs))] sz)) (va_Qi (fun r : Int32 => (fun _ : Unit => r = if p0 < 0 ∨ ¬ p0 ≤ 0 then 0 else 1)) (Bq (dC, dI) (fun _ : Unit => []) (fun _ : Unit => []) (va_A [(h0, .inr (11, fs))] sz)) (va_A [(h0, .inr (11, fs))] sz)) 0 0 (va_A [(h0, .inr (11, fs))] sz) := by
  refine Met.ofW (cc := cX9_end) (maxL := 2) (ret := (some .boolean)) (by decide) rfl ?_
  intro p e s m args below meth c s₁ B hml hv
  obtain ⟨rfl, hsz, hP, hK, hD0, hN, hZ⟩ := hv
  have hx := B.exec
  have hb := B.bytes
  have hr := B.returns
  have hts := atoms_spec (ws := wp_X9_end) B.pre
  have hown : s.vm.findClass RX9 = some m.cls := findClass_of_methodNamed B.named
  have hlocks := B.notSynchronized
  have iRX9 : ∀ w ∈ u_ws RX9 TX9 60, w ∈ wp_X9_end := by decide +kernel
  subst hsz
  have hD := hD0.self (sz := s.heap.size)
  generalize hAe : va_A [(h0, .inr (11, fs))] s.heap.size = A at hD hZ ⊢
  have hA : ∀ q : Nat, s.heap.size ≤ q → A q := fun q h => by rw [← hAe]; exact Or.inr h
  have hS : va_S A s.heap s.heap [] := va_S.rf
  have hP : va_P (dC, dI) vwCl [(h0, .inr (11, fs))] s.heap := hP
  have hl := lv_entry ([.ref h0, .int p0]) (n := 2) (Nat.le_of_ble_eq_true rfl)
  rw [lg_entry_eq]
  generalize (lg_sl ([.ref h0, .int p0]) ++ List.replicate (2 - (lg_sl ([.ref h0, .int p0])).length) Slot.unset).toArray = ls at hl ⊢
  have hl : lv_has ls 2 [(0, .ref h0), (1, .int p0)] := hl
  refine lv_iload_n hx hb dX9_end_0 rfl (lv_at hl 1 rfl) ?_
  refine lv_if_lt (tgt := 12) hx hb dX9_end_1 (by decide) (fun c_1 => ?_) (fun c_1 => ?_)
  · refine lv_iconst (v := 0) hx hb dX9_end_12 (by decide) ?_
    have hP9 := hP.sub (ws' := []) [] rfl
    have hD9 := hD.sub (ws' := []) [] (by decide) rfl
    have hK9 := hK.sub (tys' := []) [] rfl
    exact W.zret (v := 0) hx hb hr rfl (fun t ht hW => ⟨⟨0, (), rfl, (if_pos (Or.inl c_1)).symm, by rw [ht]; exact hP9, va_K.moved hW.alike hK9, hD9⟩, hS.F ht⟩) hS.2.2 dX9_end_13
  · refine lv_iload_n hx hb dX9_end_4 rfl (lv_at hl 1 rfl) ?_
    refine lv_aload_n hx hb dX9_end_5 rfl (lv_at hl 0 rfl) ?_
    refine va_get (D := (dC, dI)) (ci := 11) (v := .int 0) (C := RX9) (T := TX9) (N := 60) hx hb hts iRX9 hown hK hP 0 rfl rfl 10 (by decide) (hts (.fieldLink RX9 132 "RecordBenchModel" "taped" "I") (by decide +kernel)) (fun _ h9 => h9) fh10 dX9_end_6 ?_
    refine lv_icmp_le (tgt := 14) hx hb dX9_end_9 (by decide) (fun c_2 => ?_) (fun c_2 => ?_)
    · refine lv_aload_n hx hb dX9_end_14 rfl (lv_at hl 0 rfl) ?_
      refine lv_iload_n hx hb dX9_end_15 rfl (lv_at hl 1 rfl) ?_
      refine va_put (D := (dC, dI)) (ci := 11) (v := .int p0) (ty := .int) (C := RX9) (T := TX9) (N := 60) hx hb hts iRX9 tyX9 tyX9_ok nmX9 hown hK hP hD hS 0 rfl rfl 10 (by decide) (hts (.fieldLink RX9 132 "RecordBenchModel" "taped" "I") (by decide +kernel)) (fun _ h9 => h9) rfl (by decide +kernel) rfl rfl (by have := hfs; omega) dX9_end_16 (fun H locs hP hD hS => ?_)
      obtain ⟨fs_3, efs_3⟩ : ∃ y, y = fs.set 10 (.int p0) := ⟨_, rfl⟩
      rw [← efs_3] at hP hD
      have lfs_3 : fs_3.length = 60 := by rw [efs_3, List.length_set]; exact hfs
      have fs_3h10 : fs_3[10]? = some (.int p0) := by rw [efs_3, List.getElem?_set_self (by have := hfs; omega)]
      have hP : va_P (dC, dI) vwCl [(h0, .inr (11, fs_3))] H := hP
      have hD : va_D A [(h0, .inr (11, fs_3))] := hD
      refine lv_iconst (v := 1) hx hb dX9_end_19 (by decide) ?_
      have hP9 := hP.sub (ws' := []) [] rfl
      have hD9 := hD.sub (ws' := []) [] (by decide) rfl
      have hK9 := hK.sub (tys' := []) [] rfl
      exact W.zret (v := 1) hx hb hr rfl (fun t ht hW => ⟨⟨1, (), rfl, (if_neg (fun h => h.elim c_1 (fun h2 => h2 c_2))).symm, by rw [ht]; exact hP9, va_K.moved hW.alike hK9, hD9⟩, hS.F ht⟩) hS.2.2 dX9_end_20
    · refine lv_iconst (v := 0) hx hb dX9_end_12 (by decide) ?_
      have hP9 := hP.sub (ws' := []) [] rfl
      have hD9 := hD.sub (ws' := []) [] (by decide) rfl
      have hK9 := hK.sub (tys' := []) [] rfl
      exact W.zret (v := 0) hx hb hr rfl (fun t ht hW => ⟨⟨0, (), rfl, (if_pos (Or.inr c_2)).symm, by rw [ht]; exact hP9, va_K.moved hW.alike hK9, hD9⟩, hS.F ht⟩) hS.2.2 dX9_end_13
def wp_X9_clear : List Cond := .code yX9_clear cX9_clear 3 (some .int) :: ([.methodLink RX9 249 yX9_isRecord, .static yX9_isRecord, .initialized RX9, .fieldLink RX9 78 "RecordBenchModel" "long0" "[I", .code yX9_isRecord cX9_isRecord 1 (some .boolean)] ++ wsX90)
set_option maxRecDepth 20000 in
theorem gp_X9_clear_X9_isRecord_249 : GoodIn wp_X9_clear (wsS RX9 249 yX9_isRecord wp_X9_isRecord) := goodIn_p _ [5] rfl (by decide +kernel)
set_option maxHeartbeats 4000000 in
set_option maxRecDepth 100000 in
theorem c_X9_clear (l : Launch) (dC : Nat → ClassId) (dI : Nat → Nat → Nat) (h0 : Nat) (fs : List Value) (hfs : fs.length = 60) (a29 : Nat) (c29 : ClassId) (fh29 : fs[29]? = some (.ref a29)) (p0 : Int32) (sz : Nat) : Met l yX9_clear wp_X9_clear ({ frames := 1, cells := 0, slots := 0, locals := 24 }) (va_Pc [.ref h0, .int p0] (Pr (dC, dI) [(c29, .int)] [(h0, .inr (11, fs)), (a29, .inl (c29, 4, .inl (fun _ => 0)))] sz)) (va_Qi (fun r : Int32 => (fun _ : Unit => r = if p0 < 0 ∨ 4 ≤ p0 then -1 else 0)) (Bq (dC, dI) (fun _ : Unit => []) (fun _ : Unit => []) (va_A [(h0, .inr (11, fs)), (a29, .inl (c29, 4, .inl (fun _ => 0)))] sz)) (va_A [(h0, .inr (11, fs)), (a29, .inl (c29, 4, .inl (fun _ => 0)))] sz)) 0 0 (va_A [(h0, .inr (11, fs)), (a29, .inl (c29, 4, .inl (fun _ => 0)))] sz) := by
  refine Met.ofW (cc := cX9_clear) (maxL := 3) (ret := (some .int)) (by decide) rfl ?_
  intro p e s m args below meth c s₁ B hml hv
  obtain ⟨rfl, hsz, hP, hK, hD0, hN, hZ⟩ := hv
  have hx := B.exec
  have hb := B.bytes
  have hr := B.returns
  have hts := atoms_spec (ws := wp_X9_clear) B.pre
  have hown : s.vm.findClass RX9 = some m.cls := findClass_of_methodNamed B.named
  have hlocks := B.notSynchronized
  have iRX9 : ∀ w ∈ u_ws RX9 TX9 60, w ∈ wp_X9_clear := by decide +kernel
  subst hsz
  have hD := hD0.self (sz := s.heap.size)
  generalize hAe : va_A [(h0, .inr (11, fs)), (a29, .inl (c29, 4, .inl (fun _ => 0)))] s.heap.size = A at hD hZ ⊢
  have hA : ∀ q : Nat, s.heap.size ≤ q → A q := fun q h => by rw [← hAe]; exact Or.inr h
  have hS : va_S A s.heap s.heap [] := va_S.rf
  have hP : va_P (dC, dI) vwCl [(h0, .inr (11, fs)), (a29, .inl (c29, 4, .inl (fun _ => 0)))] s.heap := hP
  have hl := lv_entry ([.ref h0, .int p0]) (n := 3) (Nat.le_of_ble_eq_true rfl)
  rw [lg_entry_eq]
  generalize (lg_sl ([.ref h0, .int p0]) ++ List.replicate (3 - (lg_sl ([.ref h0, .int p0])).length) Slot.unset).toArray = ls at hl ⊢
  have hl : lv_has ls 3 [(0, .ref h0), (1, .int p0)] := hl
  refine lv_iload_n hx hb dX9_clear_0 rfl (lv_at hl 1 rfl) ?_
  have hFc := va_free (wc := []) hD hS hA [] rfl
  refine va_calli (va_runS (As := [.int p0]) (rest := []) ⟨hx, hb, hml, hown, hts⟩ (c_X9_isRecord l dC dI p0 s.heap.size) (cwS 1 hts gp_X9_clear_X9_isRecord_249 rfl rfl rfl (by decide +kernel) ⟨Nat.le_of_ble_eq_true rfl, Nat.le_of_ble_eq_true rfl⟩) ⟨Pr.blind _, fun U hU hW => ⟨rfl, Pr.at (hP.sub (ws' := []) [] rfl) (hK.sub (tys' := []) [] rfl) (hD.sub (ws' := []) [] (by decide) rfl) hN hZ hS hFc hU hW⟩⟩ rfl rfl hl.1 rfl (lv_room (Nat.le_of_ble_eq_true rfl)) dX9_clear_1 ⟨Nat.le_of_ble_eq_true rfl, Nat.le_of_ble_eq_true rfl⟩) hS (fun q _ h => hFc q h) hFc (fun r_1 u t H1 locs ht hvm hw_2 hB hz1 hk1 hS => ?_)
  obtain ⟨hP, hD, hK⟩ := Bq.join (wr := [(h0, .inr (11, fs)), (a29, .inl (c29, 4, .inl (fun _ => 0)))]) hB ht hvm hP hD [] [0, 1] rfl rfl (by decide) (by decide) hk1 hFc hK
  generalize H1 = H at hP hS ⊢
  have hP : va_P (dC, dI) vwCl [(h0, .inr (11, fs)), (a29, .inl (c29, 4, .inl (fun _ => 0)))] H := hP
  have hD : va_D A [(h0, .inr (11, fs)), (a29, .inl (c29, 4, .inl (fun _ => 0)))] := hD
  have hK : va_K (dC, dI) vwCl [(c29, .int)] s := hK
  try dsimp only at hw_2
  have k_3 := hw_2
  rcases k_3 with ⟨ho, rfl⟩ | ⟨ho, rfl⟩
  · refine W.eq (g2 := F0 m 4 ls [.int 0]) rfl ?_
    refine lv_if_ne (tgt := 9) hx hb dX9_clear_4 (by decide) (fun c_4 => absurd (by decide) c_4) (fun c_4 => ?_)
    refine lv_iconst (v := (-1)) hx hb dX9_clear_7 (by decide) ?_
    have hP9 := hP.sub (ws' := []) [] rfl
    have hD9 := hD.sub (ws' := []) [] (by decide) rfl
    have hK9 := hK.sub (tys' := []) [] rfl
    exact W.iret (v := (-1)) hx hb hr (fun t ht hW => ⟨⟨(-1), (), rfl, (if_pos ho).symm, by rw [ht]; exact hP9, va_K.moved hW.alike hK9, hD9⟩, hS.F ht⟩) hS.2.2 dX9_clear_8
  · refine W.eq (g2 := F0 m 4 ls [.int 1]) rfl ?_
    refine lv_if_ne (tgt := 9) hx hb dX9_clear_4 (by decide) (fun c_5 => ?_) (fun c_5 => absurd c_5 (by decide))
    refine lv_aload_n hx hb dX9_clear_9 rfl (lv_at hl 0 rfl) ?_
    refine va_get (D := (dC, dI)) (ci := 11) (v := .ref a29) (C := RX9) (T := TX9) (N := 60) hx hb hts iRX9 hown hK hP 0 rfl rfl 29 (by decide) (hts (.fieldLink RX9 78 "RecordBenchModel" "long0" "[I") (by decide +kernel)) (fun _ h9 => h9) fh29 dX9_clear_10 ?_
    refine lv_iload_n hx hb dX9_clear_13 rfl (lv_at hl 1 rfl) ?_
    refine va_iald hx hb hK hP 1 0 rfl rfl (in_of 4 rfl (by decide) (fun h => ho (Or.inl h)) (fun h => ho (Or.inr h))) dX9_clear_14 ?_
    refine W_toi (y := 0) (rfl) ?_
    refine lv_istore_n (lv' := [(2, .int 0), (0, .ref h0), (1, .int p0)]) hx hb dX9_clear_15 rfl hl (by decide) rfl (fun ls hl => ?_)
    refine lv_aload_n hx hb dX9_clear_16 rfl (lv_at hl 1 rfl) ?_
    refine va_get (D := (dC, dI)) (ci := 11) (v := .ref a29) (C := RX9) (T := TX9) (N := 60) hx hb hts iRX9 hown hK hP 0 rfl rfl 29 (by decide) (hts (.fieldLink RX9 78 "RecordBenchModel" "long0" "[I") (by decide +kernel)) (fun _ h9 => h9) fh29 dX9_clear_17 ?_
    refine lv_iload_n hx hb dX9_clear_20 rfl (lv_at hl 2 rfl) ?_
    refine lv_iconst (v := 0) hx hb dX9_clear_21 (by decide) ?_
    refine va_iast hx hb hK hP hD hS 1 0 rfl rfl (in_of 4 rfl (by decide) (fun h => ho (Or.inl h)) (fun h => ho (Or.inr h))) dX9_clear_22 (fun H locs hP hD hS => ?_)
    obtain ⟨f_6, ef_6⟩ : ∃ y : Nat → Int32, y = upd (fun _ => 0) (p0 : Int32).toNatClampNeg 0 := ⟨_, rfl⟩
    have hP : va_P (dC, dI) vwCl [(h0, .inr (11, fs)), (a29, .inl (c29, 4, .inl f_6))] H := by rw [ef_6]; exact hP
    have hD : va_D A [(h0, .inr (11, fs)), (a29, .inl (c29, 4, .inl f_6))] := by rw [ef_6]; exact hD
    refine lv_iload_n hx hb dX9_clear_23 rfl (lv_at hl 0 rfl) ?_
    have hP9 := hP.sub (ws' := []) [] rfl
    have hD9 := hD.sub (ws' := []) [] (by decide) rfl
    have hK9 := hK.sub (tys' := []) [] rfl
    exact W.iret (v := 0) hx hb hr (fun t ht hW => ⟨⟨0, (), rfl, (if_neg ho).symm, by rw [ht]; exact hP9, va_K.moved hW.alike hK9, hD9⟩, hS.F ht⟩) hS.2.2 dX9_clear_24
def wp_X9_load : List Cond := .code yX9_load cX9_load 3 (some .int) :: ([.methodLink RX9 249 yX9_isRecord, .static yX9_isRecord, .initialized RX9, .fieldLink RX9 132 "RecordBenchModel" "taped" "I", .fieldLink RX9 78 "RecordBenchModel" "long0" "[I", .code yX9_isRecord cX9_isRecord 1 (some .boolean)] ++ wsX90)
set_option maxRecDepth 20000 in
theorem gp_X9_load_X9_isRecord_249 : GoodIn wp_X9_load (wsS RX9 249 yX9_isRecord wp_X9_isRecord) := goodIn_p _ [6] rfl (by decide +kernel)
set_option maxHeartbeats 4000000 in
set_option maxRecDepth 100000 in
theorem c_X9_load (l : Launch) (dC : Nat → ClassId) (dI : Nat → Nat → Nat) (h0 : Nat) (fs : List Value) (hfs : fs.length = 60) (a29 : Nat) (c29 : ClassId) (fh10 : fs[10]? = some (.int 0)) (fh29 : fs[29]? = some (.ref a29)) (p0 : Int32) (sz : Nat) : Met l yX9_load wp_X9_load ({ frames := 1, cells := 0, slots := 0, locals := 24 }) (va_Pc [.ref h0, .int p0] (Pr (dC, dI) [(c29, .int)] [(h0, .inr (11, fs)), (a29, .inl (c29, 4, .inl (fun _ => 0)))] sz)) (va_Qi (fun r : Int32 => (fun _ : Unit => r = if p0 < 0 ∨ 4 ≤ p0 then -1 else 0)) (Bq (dC, dI) (fun _ : Unit => []) (fun _ : Unit => []) (va_A [(h0, .inr (11, fs)), (a29, .inl (c29, 4, .inl (fun _ => 0)))] sz)) (va_A [(h0, .inr (11, fs)), (a29, .inl (c29, 4, .inl (fun _ => 0)))] sz)) 0 0 (va_A [(h0, .inr (11, fs)), (a29, .inl (c29, 4, .inl (fun _ => 0)))] sz) := by
  refine Met.ofW (cc := cX9_load) (maxL := 3) (ret := (some .int)) (by decide) rfl ?_
  intro p e s m args below meth c s₁ B hml hv
  obtain ⟨rfl, hsz, hP, hK, hD0, hN, hZ⟩ := hv
  have hx := B.exec
  have hb := B.bytes
  have hr := B.returns
  have hts := atoms_spec (ws := wp_X9_load) B.pre
  have hown : s.vm.findClass RX9 = some m.cls := findClass_of_methodNamed B.named
  have hlocks := B.notSynchronized
  have iRX9 : ∀ w ∈ u_ws RX9 TX9 60, w ∈ wp_X9_load := by decide +kernel
  subst hsz
  have hD := hD0.self (sz := s.heap.size)
  generalize hAe : va_A [(h0, .inr (11, fs)), (a29, .inl (c29, 4, .inl (fun _ => 0)))] s.heap.size = A at hD hZ ⊢
  have hA : ∀ q : Nat, s.heap.size ≤ q → A q := fun q h => by rw [← hAe]; exact Or.inr h
  have hS : va_S A s.heap s.heap [] := va_S.rf
  have hP : va_P (dC, dI) vwCl [(h0, .inr (11, fs)), (a29, .inl (c29, 4, .inl (fun _ => 0)))] s.heap := hP
  have hl := lv_entry ([.ref h0, .int p0]) (n := 3) (Nat.le_of_ble_eq_true rfl)
  rw [lg_entry_eq]
  generalize (lg_sl ([.ref h0, .int p0]) ++ List.replicate (3 - (lg_sl ([.ref h0, .int p0])).length) Slot.unset).toArray = ls at hl ⊢
  have hl : lv_has ls 3 [(0, .ref h0), (1, .int p0)] := hl
  refine lv_iload_n hx hb dX9_load_0 rfl (lv_at hl 1 rfl) ?_
  have hFc := va_free (wc := []) hD hS hA [] rfl
  refine va_calli (va_runS (As := [.int p0]) (rest := []) ⟨hx, hb, hml, hown, hts⟩ (c_X9_isRecord l dC dI p0 s.heap.size) (cwS 1 hts gp_X9_load_X9_isRecord_249 rfl rfl rfl (by decide +kernel) ⟨Nat.le_of_ble_eq_true rfl, Nat.le_of_ble_eq_true rfl⟩) ⟨Pr.blind _, fun U hU hW => ⟨rfl, Pr.at (hP.sub (ws' := []) [] rfl) (hK.sub (tys' := []) [] rfl) (hD.sub (ws' := []) [] (by decide) rfl) hN hZ hS hFc hU hW⟩⟩ rfl rfl hl.1 rfl (lv_room (Nat.le_of_ble_eq_true rfl)) dX9_load_1 ⟨Nat.le_of_ble_eq_true rfl, Nat.le_of_ble_eq_true rfl⟩) hS (fun q _ h => hFc q h) hFc (fun r_1 u t H1 locs ht hvm hw_2 hB hz1 hk1 hS => ?_)
  obtain ⟨hP, hD, hK⟩ := Bq.join (wr := [(h0, .inr (11, fs)), (a29, .inl (c29, 4, .inl (fun _ => 0)))]) hB ht hvm hP hD [] [0, 1] rfl rfl (by decide) (by decide) hk1 hFc hK
  generalize H1 = H at hP hS ⊢
  have hP : va_P (dC, dI) vwCl [(h0, .inr (11, fs)), (a29, .inl (c29, 4, .inl (fun _ => 0)))] H := hP
  have hD : va_D A [(h0, .inr (11, fs)), (a29, .inl (c29, 4, .inl (fun _ => 0)))] := hD
  have hK : va_K (dC, dI) vwCl [(c29, .int)] s := hK
  try dsimp only at hw_2
  have k_3 := hw_2
  rcases k_3 with ⟨ho, rfl⟩ | ⟨ho, rfl⟩
  · refine W.eq (g2 := F0 m 4 ls [.int 0]) rfl ?_
    refine lv_if_eq (tgt := 16) hx hb dX9_load_4 (by decide) (fun c_4 => ?_) (fun c_4 => absurd (by decide) c_4)
    refine lv_iconst (v := (-1)) hx hb dX9_load_16 (by decide) ?_
    have hP9 := hP.sub (ws' := []) [] rfl
    have hD9 := hD.sub (ws' := []) [] (by decide) rfl
    have hK9 := hK.sub (tys' := []) [] rfl
    exact W.iret (v := (-1)) hx hb hr (fun t ht hW => ⟨⟨(-1), (), rfl, (if_pos ho).symm, by rw [ht]; exact hP9, va_K.moved hW.alike hK9, hD9⟩, hS.F ht⟩) hS.2.2 dX9_load_17
  · refine W.eq (g2 := F0 m 4 ls [.int 1]) rfl ?_
    refine lv_if_eq (tgt := 16) hx hb dX9_load_4 (by decide) (fun c_5 => absurd c_5 (by decide)) (fun c_5 => ?_)
    refine lv_aload_n hx hb dX9_load_7 rfl (lv_at hl 0 rfl) ?_
    refine va_get (D := (dC, dI)) (ci := 11) (v := .int 0) (C := RX9) (T := TX9) (N := 60) hx hb hts iRX9 hown hK hP 0 rfl rfl 10 (by decide) (hts (.fieldLink RX9 132 "RecordBenchModel" "taped" "I") (by decide +kernel)) (fun _ h9 => h9) fh10 dX9_load_8 ?_
    refine lv_bipush (v := 120) hx hb dX9_load_11 (by decide) ?_
    refine lv_icmp_le (tgt := 18) hx hb dX9_load_13 (by decide) (fun c_6 => ?_) (fun c_6 => absurd (by decide) c_6)
    refine lv_iconst (v := 0) hx hb dX9_load_18 (by decide) ?_
    refine lv_istore_n (lv' := [(2, .int 0), (0, .ref h0), (1, .int p0)]) hx hb dX9_load_19 rfl hl (by decide) rfl (fun ls hl => ?_)
    refine lv_iload_n hx hb dX9_load_20 rfl (lv_at hl 0 rfl) ?_
    refine lv_aload_n hx hb dX9_load_21 rfl (lv_at hl 1 rfl) ?_
    refine va_get (D := (dC, dI)) (ci := 11) (v := .int 0) (C := RX9) (T := TX9) (N := 60) hx hb hts iRX9 hown hK hP 0 rfl rfl 10 (by decide) (hts (.fieldLink RX9 132 "RecordBenchModel" "taped" "I") (by decide +kernel)) (fun _ h9 => h9) fh10 dX9_load_22 ?_
    refine lv_icmp_ge (tgt := 51) hx hb dX9_load_25 (by decide) (fun c_7 => ?_) (fun c_7 => absurd (by decide) c_7)
    refine lv_aload_n hx hb dX9_load_51 rfl (lv_at hl 1 rfl) ?_
    refine va_get (D := (dC, dI)) (ci := 11) (v := .ref a29) (C := RX9) (T := TX9) (N := 60) hx hb hts iRX9 hown hK hP 0 rfl rfl 29 (by decide) (hts (.fieldLink RX9 78 "RecordBenchModel" "long0" "[I") (by decide +kernel)) (fun _ h9 => h9) fh29 dX9_load_52 ?_
    refine lv_iload_n hx hb dX9_load_55 rfl (lv_at hl 2 rfl) ?_
    refine lv_aload_n hx hb dX9_load_56 rfl (lv_at hl 1 rfl) ?_
    refine va_get (D := (dC, dI)) (ci := 11) (v := .int 0) (C := RX9) (T := TX9) (N := 60) hx hb hts iRX9 hown hK hP 0 rfl rfl 10 (by decide) (hts (.fieldLink RX9 132 "RecordBenchModel" "taped" "I") (by decide +kernel)) (fun _ h9 => h9) fh10 dX9_load_57 ?_
    refine va_iast hx hb hK hP hD hS 1 0 rfl rfl (in_of 4 rfl (by decide) (fun h => ho (Or.inl h)) (fun h => ho (Or.inr h))) dX9_load_60 (fun H locs hP hD hS => ?_)
    obtain ⟨f_8, ef_8⟩ : ∃ y : Nat → Int32, y = upd (fun _ => 0) (p0 : Int32).toNatClampNeg 0 := ⟨_, rfl⟩
    have hP : va_P (dC, dI) vwCl [(h0, .inr (11, fs)), (a29, .inl (c29, 4, .inl f_8))] H := by rw [ef_8]; exact hP
    have hD : va_D A [(h0, .inr (11, fs)), (a29, .inl (c29, 4, .inl f_8))] := by rw [ef_8]; exact hD
    refine lv_aload_n hx hb dX9_load_61 rfl (lv_at hl 1 rfl) ?_
    refine lv_iconst (v := 0) hx hb dX9_load_62 (by decide) ?_
    refine va_put (D := (dC, dI)) (ci := 11) (v := .int 0) (ty := .int) (C := RX9) (T := TX9) (N := 60) hx hb hts iRX9 tyX9 tyX9_ok nmX9 hown hK hP hD hS 0 rfl rfl 10 (by decide) (hts (.fieldLink RX9 132 "RecordBenchModel" "taped" "I") (by decide +kernel)) (fun _ h9 => h9) rfl (by decide +kernel) rfl rfl (by have := hfs; omega) dX9_load_63 (fun H locs hP hD hS => ?_)
    obtain ⟨fs_9, efs_9⟩ : ∃ y, y = fs.set 10 (.int 0) := ⟨_, rfl⟩
    rw [← efs_9] at hP hD
    have lfs_9 : fs_9.length = 60 := by rw [efs_9, List.length_set]; exact hfs
    have fs_9h29 : fs_9[29]? = some (.ref a29) := by rw [efs_9, List.getElem?_set_ne (by decide)]; exact fh29
    have fs_9h10 : fs_9[10]? = some (.int 0) := by rw [efs_9, List.getElem?_set_self (by have := hfs; omega)]
    have hP : va_P (dC, dI) vwCl [(h0, .inr (11, fs_9)), (a29, .inl (c29, 4, .inl f_8))] H := hP
    have hD : va_D A [(h0, .inr (11, fs_9)), (a29, .inl (c29, 4, .inl f_8))] := hD
    refine lv_aload_n hx hb dX9_load_66 rfl (lv_at hl 1 rfl) ?_
    refine va_get (D := (dC, dI)) (ci := 11) (v := .ref a29) (C := RX9) (T := TX9) (N := 60) hx hb hts iRX9 hown hK hP 0 rfl rfl 29 (by decide) (hts (.fieldLink RX9 78 "RecordBenchModel" "long0" "[I") (by decide +kernel)) (fun _ h9 => h9) fs_9h29 dX9_load_67 ?_
    refine lv_iload_n hx hb dX9_load_70 rfl (lv_at hl 2 rfl) ?_
    refine va_iald hx hb hK hP 1 0 rfl rfl (in_of 4 rfl (by decide) (fun h => ho (Or.inl h)) (fun h => ho (Or.inr h))) dX9_load_71 ?_
    refine W_toi (y := 0) (by rw [ef_8]; exact pk_us) ?_
    have hP9 := hP.sub (ws' := []) [] rfl
    have hD9 := hD.sub (ws' := []) [] (by decide) rfl
    have hK9 := hK.sub (tys' := []) [] rfl
    exact W.iret (v := 0) hx hb hr (fun t ht hW => ⟨⟨0, (), rfl, (if_neg ho).symm, by rw [ht]; exact hP9, va_K.moved hW.alike hK9, hD9⟩, hS.F ht⟩) hS.2.2 dX9_load_72
def wp_X9_at : List Cond := .code yX9_at cX9_at 3 (some .int) :: ([.methodLink RX9 249 yX9_isRecord, .static yX9_isRecord, .initialized RX9, .fieldLink RX9 78 "RecordBenchModel" "long0" "[I", .code yX9_isRecord cX9_isRecord 1 (some .boolean)] ++ wsX90)
set_option maxRecDepth 20000 in
theorem gp_X9_at_X9_isRecord_249 : GoodIn wp_X9_at (wsS RX9 249 yX9_isRecord wp_X9_isRecord) := goodIn_p _ [5] rfl (by decide +kernel)
set_option maxHeartbeats 4000000 in
set_option maxRecDepth 100000 in
theorem c_X9_at (l : Launch) (dC : Nat → ClassId) (dI : Nat → Nat → Nat) (h0 : Nat) (fs : List Value) (hfs : fs.length = 60) (a29 : Nat) (c29 : ClassId) (fh29 : fs[29]? = some (.ref a29)) (p0 : Int32) (p1 : Int32) (sz : Nat) : Met l yX9_at wp_X9_at ({ frames := 1, cells := 0, slots := 0, locals := 24 }) (va_Pc [.ref h0, .int p0, .int p1] (Pr (dC, dI) [(c29, .int)] [(h0, .inr (11, fs)), (a29, .inl (c29, 4, .inl (fun _ => 0)))] sz)) (va_Qi (fun r : Int32 => (fun _ : Unit => r = -1)) (Bq (dC, dI) (fun _ : Unit => []) (fun _ : Unit => []) (va_A [(h0, .inr (11, fs)), (a29, .inl (c29, 4, .inl (fun _ => 0)))] sz)) (va_A [(h0, .inr (11, fs)), (a29, .inl (c29, 4, .inl (fun _ => 0)))] sz)) 0 0 (va_A [(h0, .inr (11, fs)), (a29, .inl (c29, 4, .inl (fun _ => 0)))] sz) := by
  refine Met.ofW (cc := cX9_at) (maxL := 3) (ret := (some .int)) (by decide) rfl ?_
  intro p e s m args below meth c s₁ B hml hv
  obtain ⟨rfl, hsz, hP, hK, hD0, hN, hZ⟩ := hv
  have hx := B.exec
  have hb := B.bytes
  have hr := B.returns
  have hts := atoms_spec (ws := wp_X9_at) B.pre
  have hown : s.vm.findClass RX9 = some m.cls := findClass_of_methodNamed B.named
  have hlocks := B.notSynchronized
  have iRX9 : ∀ w ∈ u_ws RX9 TX9 60, w ∈ wp_X9_at := by decide +kernel
  subst hsz
  have hD := hD0.self (sz := s.heap.size)
  generalize hAe : va_A [(h0, .inr (11, fs)), (a29, .inl (c29, 4, .inl (fun _ => 0)))] s.heap.size = A at hD hZ ⊢
  have hA : ∀ q : Nat, s.heap.size ≤ q → A q := fun q h => by rw [← hAe]; exact Or.inr h
  have hS : va_S A s.heap s.heap [] := va_S.rf
  have hP : va_P (dC, dI) vwCl [(h0, .inr (11, fs)), (a29, .inl (c29, 4, .inl (fun _ => 0)))] s.heap := hP
  have hl := lv_entry ([.ref h0, .int p0, .int p1]) (n := 3) (Nat.le_of_ble_eq_true rfl)
  rw [lg_entry_eq]
  generalize (lg_sl ([.ref h0, .int p0, .int p1]) ++ List.replicate (3 - (lg_sl ([.ref h0, .int p0, .int p1])).length) Slot.unset).toArray = ls at hl ⊢
  have hl : lv_has ls 3 [(0, .ref h0), (1, .int p0), (2, .int p1)] := hl
  refine lv_iload_n hx hb dX9_at_0 rfl (lv_at hl 1 rfl) ?_
  have hFc := va_free (wc := []) hD hS hA [] rfl
  refine va_calli (va_runS (As := [.int p0]) (rest := []) ⟨hx, hb, hml, hown, hts⟩ (c_X9_isRecord l dC dI p0 s.heap.size) (cwS 1 hts gp_X9_at_X9_isRecord_249 rfl rfl rfl (by decide +kernel) ⟨Nat.le_of_ble_eq_true rfl, Nat.le_of_ble_eq_true rfl⟩) ⟨Pr.blind _, fun U hU hW => ⟨rfl, Pr.at (hP.sub (ws' := []) [] rfl) (hK.sub (tys' := []) [] rfl) (hD.sub (ws' := []) [] (by decide) rfl) hN hZ hS hFc hU hW⟩⟩ rfl rfl hl.1 rfl (lv_room (Nat.le_of_ble_eq_true rfl)) dX9_at_1 ⟨Nat.le_of_ble_eq_true rfl, Nat.le_of_ble_eq_true rfl⟩) hS (fun q _ h => hFc q h) hFc (fun r_1 u t H1 locs ht hvm hw_2 hB hz1 hk1 hS => ?_)
  obtain ⟨hP, hD, hK⟩ := Bq.join (wr := [(h0, .inr (11, fs)), (a29, .inl (c29, 4, .inl (fun _ => 0)))]) hB ht hvm hP hD [] [0, 1] rfl rfl (by decide) (by decide) hk1 hFc hK
  generalize H1 = H at hP hS ⊢
  have hP : va_P (dC, dI) vwCl [(h0, .inr (11, fs)), (a29, .inl (c29, 4, .inl (fun _ => 0)))] H := hP
  have hD : va_D A [(h0, .inr (11, fs)), (a29, .inl (c29, 4, .inl (fun _ => 0)))] := hD
  have hK : va_K (dC, dI) vwCl [(c29, .int)] s := hK
  try dsimp only at hw_2
  have k_3 := hw_2
  rcases k_3 with ⟨ho, rfl⟩ | ⟨ho, rfl⟩
  · refine W.eq (g2 := F0 m 4 ls [.int 0]) rfl ?_
    refine lv_if_eq (tgt := 35) hx hb dX9_at_4 (by decide) (fun c_4 => ?_) (fun c_4 => absurd (by decide) c_4)
    refine lv_iconst (v := (-1)) hx hb dX9_at_35 (by decide) ?_
    have hP9 := hP.sub (ws' := []) [] rfl
    have hD9 := hD.sub (ws' := []) [] (by decide) rfl
    have hK9 := hK.sub (tys' := []) [] rfl
    exact W.iret (v := (-1)) hx hb hr (fun t ht hW => ⟨⟨(-1), (), rfl, rfl, by rw [ht]; exact hP9, va_K.moved hW.alike hK9, hD9⟩, hS.F ht⟩) hS.2.2 dX9_at_36
  · refine W.eq (g2 := F0 m 4 ls [.int 1]) rfl ?_
    refine lv_if_eq (tgt := 35) hx hb dX9_at_4 (by decide) (fun c_5 => absurd c_5 (by decide)) (fun c_5 => ?_)
    refine lv_iload_n hx hb dX9_at_7 rfl (lv_at hl 2 rfl) ?_
    refine lv_if_lt (tgt := 35) hx hb dX9_at_8 (by decide) (fun c_6 => ?_) (fun c_6 => ?_)
    · refine lv_iconst (v := (-1)) hx hb dX9_at_35 (by decide) ?_
      have hP9 := hP.sub (ws' := []) [] rfl
      have hD9 := hD.sub (ws' := []) [] (by decide) rfl
      have hK9 := hK.sub (tys' := []) [] rfl
      exact W.iret (v := (-1)) hx hb hr (fun t ht hW => ⟨⟨(-1), (), rfl, rfl, by rw [ht]; exact hP9, va_K.moved hW.alike hK9, hD9⟩, hS.F ht⟩) hS.2.2 dX9_at_36
    · refine lv_iload_n hx hb dX9_at_11 rfl (lv_at hl 2 rfl) ?_
      refine lv_aload_n hx hb dX9_at_12 rfl (lv_at hl 0 rfl) ?_
      refine va_get (D := (dC, dI)) (ci := 11) (v := .ref a29) (C := RX9) (T := TX9) (N := 60) hx hb hts iRX9 hown hK hP 0 rfl rfl 29 (by decide) (hts (.fieldLink RX9 78 "RecordBenchModel" "long0" "[I") (by decide +kernel)) (fun _ h9 => h9) fh29 dX9_at_13 ?_
      refine lv_iload_n hx hb dX9_at_16 rfl (lv_at hl 1 rfl) ?_
      refine va_iald hx hb hK hP 1 0 rfl rfl (in_of 4 rfl (by decide) (fun h => ho (Or.inl h)) (fun h => ho (Or.inr h))) dX9_at_17 ?_
      refine W_toi (y := 0) (rfl) ?_
      refine lv_icmp_ge (tgt := 35) hx hb dX9_at_18 (by decide) (fun c_7 => ?_) (fun c_7 => absurd (nlt0 c_6) c_7)
      refine lv_iconst (v := (-1)) hx hb dX9_at_35 (by decide) ?_
      have hP9 := hP.sub (ws' := []) [] rfl
      have hD9 := hD.sub (ws' := []) [] (by decide) rfl
      have hK9 := hK.sub (tys' := []) [] rfl
      exact W.iret (v := (-1)) hx hb hr (fun t ht hW => ⟨⟨(-1), (), rfl, rfl, by rw [ht]; exact hP9, va_K.moved hW.alike hK9, hD9⟩, hS.F ht⟩) hS.2.2 dX9_at_36
def wp_X9_feed : List Cond := .code yX9_feed cX9_feed 8 (some .int) :: ([.fieldLink RX9 132 "RecordBenchModel" "taped" "I", .fieldLink RX9 39 "RecordBenchModel" "tape" "[I"] ++ wsX90)
set_option maxHeartbeats 4000000 in
set_option maxRecDepth 100000 in
theorem c_X9_feed (l : Launch) (dC : Nat → ClassId) (dI : Nat → Nat → Nat) (h0 : Nat) (fs : List Value) (hfs : fs.length = 60) (a9 : Nat) (c9 : ClassId) (fh9 : fs[9]? = some (.ref a9)) (fh10 : fs[10]? = some (.int 0)) (p0 : Int32) (p1 : Int32) (p2 : Int32) (p3 : Int32) (p4 : Int32) (sz : Nat) : Met l yX9_feed wp_X9_feed ({ frames := 0, cells := 0, slots := 0, locals := 0 }) (va_Pc [.ref h0, .int p0, .int p1, .int p2, .int p3, .int p4] (Pr (dC, dI) [(c9, .int)] [(h0, .inr (11, fs)), (a9, .inl (c9, 400, .inl (fun _ => 0)))] sz)) (va_Qi (fun r : Int32 => (fun _ : Unit => r = 20)) (Bq (dC, dI) (fun _ : Unit => []) (fun _ : Unit => []) (va_A [(h0, .inr (11, fs)), (a9, .inl (c9, 400, .inl (fun _ => 0)))] sz)) (va_A [(h0, .inr (11, fs)), (a9, .inl (c9, 400, .inl (fun _ => 0)))] sz)) 0 0 (va_A [(h0, .inr (11, fs)), (a9, .inl (c9, 400, .inl (fun _ => 0)))] sz) := by
  refine Met.ofW (cc := cX9_feed) (maxL := 8) (ret := (some .int)) (by decide) rfl ?_
  intro p e s m args below meth c s₁ B hml hv
  obtain ⟨rfl, hsz, hP, hK, hD0, hN, hZ⟩ := hv
  have hx := B.exec
  have hb := B.bytes
  have hr := B.returns
  have hts := atoms_spec (ws := wp_X9_feed) B.pre
  have hown : s.vm.findClass RX9 = some m.cls := findClass_of_methodNamed B.named
  have hlocks := B.notSynchronized
  have iRX9 : ∀ w ∈ u_ws RX9 TX9 60, w ∈ wp_X9_feed := by decide +kernel
  subst hsz
  have hD := hD0.self (sz := s.heap.size)
  generalize hAe : va_A [(h0, .inr (11, fs)), (a9, .inl (c9, 400, .inl (fun _ => 0)))] s.heap.size = A at hD hZ ⊢
  have hA : ∀ q : Nat, s.heap.size ≤ q → A q := fun q h => by rw [← hAe]; exact Or.inr h
  have hS : va_S A s.heap s.heap [] := va_S.rf
  have hP : va_P (dC, dI) vwCl [(h0, .inr (11, fs)), (a9, .inl (c9, 400, .inl (fun _ => 0)))] s.heap := hP
  have hl := lv_entry ([.ref h0, .int p0, .int p1, .int p2, .int p3, .int p4]) (n := 8) (Nat.le_of_ble_eq_true rfl)
  rw [lg_entry_eq]
  generalize (lg_sl ([.ref h0, .int p0, .int p1, .int p2, .int p3, .int p4]) ++ List.replicate (8 - (lg_sl ([.ref h0, .int p0, .int p1, .int p2, .int p3, .int p4])).length) Slot.unset).toArray = ls at hl ⊢
  have hl : lv_has ls 8 [(0, .ref h0), (1, .int p0), (2, .int p1), (3, .int p2), (4, .int p3), (5, .int p4)] := hl
  refine lv_aload_n hx hb dX9_feed_0 rfl (lv_at hl 0 rfl) ?_
  refine va_get (D := (dC, dI)) (ci := 11) (v := .int 0) (C := RX9) (T := TX9) (N := 60) hx hb hts iRX9 hown hK hP 0 rfl rfl 10 (by decide) (hts (.fieldLink RX9 132 "RecordBenchModel" "taped" "I") (by decide +kernel)) (fun _ h9 => h9) fh10 dX9_feed_1 ?_
  refine lv_bipush (v := 20) hx hb dX9_feed_4 (by decide) ?_
  refine lv_iadd hx hb dX9_feed_6 ?_
  refine W_toi (y := 20) (by decide) ?_
  refine lv_sipush (v := 400) hx hb dX9_feed_7 (by decide) ?_
  refine lv_icmp_le (tgt := 15) hx hb dX9_feed_10 (by decide) (fun c_1 => ?_) (fun c_1 => absurd (by decide) c_1)
  refine lv_iconst (v := 0) hx hb dX9_feed_15 (by decide) ?_
  refine lv_istore (lv' := [(6, .int 0), (0, .ref h0), (1, .int p0), (2, .int p1), (3, .int p2), (4, .int p3), (5, .int p4)]) hx hb dX9_feed_16 hl (by decide) rfl (fun ls hl => ?_)
  refine lv_iload hx hb dX9_feed_18 (lv_at hl 0 rfl) ?_
  refine lv_bipush (v := 20) hx hb dX9_feed_20 (by decide) ?_
  refine lv_icmp_ge (tgt := 114) hx hb dX9_feed_22 (by decide) (fun c_2 => absurd c_2 (by decide)) (fun c_2 => ?_)
  refine lv_iload hx hb dX9_feed_25 (lv_at hl 0 rfl) ?_
  refine lv_iconst (v := 4) hx hb dX9_feed_27 (by decide) ?_
  refine lv_icmp_ge (tgt := 35) hx hb dX9_feed_28 (by decide) (fun c_3 => absurd c_3 (by decide)) (fun c_3 => ?_)
  refine lv_iload_n hx hb dX9_feed_31 rfl (lv_at hl 2 rfl) ?_
  refine lv_goto (tgt := 71) hx hb dX9_feed_32 (by decide) ?_
  refine lv_istore (lv' := [(7, .int p0), (6, .int 0), (0, .ref h0), (1, .int p0), (2, .int p1), (3, .int p2), (4, .int p3), (5, .int p4)]) hx hb dX9_feed_71 hl (by decide) rfl (fun ls hl => ?_)
  refine lv_aload_n hx hb dX9_feed_73 rfl (lv_at hl 2 rfl) ?_
  refine va_get (D := (dC, dI)) (ci := 11) (v := .ref a9) (C := RX9) (T := TX9) (N := 60) hx hb hts iRX9 hown hK hP 0 rfl rfl 9 (by decide) (hts (.fieldLink RX9 39 "RecordBenchModel" "tape" "[I") (by decide +kernel)) (fun _ h9 => h9) fh9 dX9_feed_74 ?_
  refine lv_aload_n hx hb dX9_feed_77 rfl (lv_at hl 2 rfl) ?_
  refine va_get (D := (dC, dI)) (ci := 11) (v := .int 0) (C := RX9) (T := TX9) (N := 60) hx hb hts iRX9 hown hK hP 0 rfl rfl 10 (by decide) (hts (.fieldLink RX9 132 "RecordBenchModel" "taped" "I") (by decide +kernel)) (fun _ h9 => h9) fh10 dX9_feed_78 ?_
  refine lv_iload hx hb dX9_feed_81 (lv_at hl 0 rfl) ?_
  refine lv_bipush (v := 8) hx hb dX9_feed_83 (by decide) ?_
  refine lv_iconst (v := 3) hx hb dX9_feed_85 (by decide) ?_
  refine lv_iload hx hb dX9_feed_86 (lv_at hl 1 rfl) ?_
  refine lv_iconst (v := 4) hx hb dX9_feed_88 (by decide) ?_
  refine lv_irem hx hb dX9_feed_89 (by decide) ?_
  refine W_toi (y := 0) (by decide) ?_
  refine lv_isub hx hb dX9_feed_90 ?_
  refine W_toi (y := 3) (by decide) ?_
  refine lv_imul hx hb dX9_feed_91 ?_
  refine W_toi (y := 24) (by decide) ?_
  refine lv_ishr hx hb dX9_feed_92 ?_
  refine lv_topi (fun z_4 ez_4 => ?_)
  refine lv_sipush (v := 255) hx hb dX9_feed_93 (by decide) ?_
  refine lv_iand hx hb dX9_feed_96 ?_
  refine lv_topi (fun z_5 ez_5 => ?_)
  refine va_iast hx hb hK hP hD hS 1 0 rfl rfl (by unfold vp_in; decide) dX9_feed_97 (fun H locs hP hD hS => ?_)
  obtain ⟨f_6, ef_6⟩ : ∃ y : Nat → Int32, y = upd (fun _ => 0) (0 : Int32).toNatClampNeg z_5 := ⟨_, rfl⟩
  have hP : va_P (dC, dI) vwCl [(h0, .inr (11, fs)), (a9, .inl (c9, 400, .inl f_6))] H := by rw [ef_6]; exact hP
  have hD : va_D A [(h0, .inr (11, fs)), (a9, .inl (c9, 400, .inl f_6))] := by rw [ef_6]; exact hD
  refine lv_aload_n hx hb dX9_feed_98 rfl (lv_at hl 2 rfl) ?_
  refine lv_dup hx hb dX9_feed_99 rfl ?_
  refine va_get (D := (dC, dI)) (ci := 11) (v := .int 0) (C := RX9) (T := TX9) (N := 60) hx hb hts iRX9 hown hK hP 0 rfl rfl 10 (by decide) (hts (.fieldLink RX9 132 "RecordBenchModel" "taped" "I") (by decide +kernel)) (fun _ h9 => h9) fh10 dX9_feed_100 ?_
  refine lv_iconst (v := 1) hx hb dX9_feed_103 (by decide) ?_
  refine lv_iadd hx hb dX9_feed_104 ?_
  refine W_toi (y := 1) (by decide) ?_
  refine va_put (D := (dC, dI)) (ci := 11) (v := .int 1) (ty := .int) (C := RX9) (T := TX9) (N := 60) hx hb hts iRX9 tyX9 tyX9_ok nmX9 hown hK hP hD hS 0 rfl rfl 10 (by decide) (hts (.fieldLink RX9 132 "RecordBenchModel" "taped" "I") (by decide +kernel)) (fun _ h9 => h9) rfl (by decide +kernel) rfl rfl (by have := hfs; omega) dX9_feed_105 (fun H locs hP hD hS => ?_)
  obtain ⟨fs_7, efs_7⟩ : ∃ y, y = fs.set 10 (.int 1) := ⟨_, rfl⟩
  rw [← efs_7] at hP hD
  have lfs_7 : fs_7.length = 60 := by rw [efs_7, List.length_set]; exact hfs
  have fs_7h9 : fs_7[9]? = some (.ref a9) := by rw [efs_7, List.getElem?_set_ne (by decide)]; exact fh9
  have fs_7h10 : fs_7[10]? = some (.int 1) := by rw [efs_7, List.getElem?_set_self (by have := hfs; omega)]
  have hP : va_P (dC, dI) vwCl [(h0, .inr (11, fs_7)), (a9, .inl (c9, 400, .inl f_6))] H := hP
  have hD : va_D A [(h0, .inr (11, fs_7)), (a9, .inl (c9, 400, .inl f_6))] := hD
  refine lv_iinc (v := 1) (lv' := [(6, .int 1), (7, .int p0), (0, .ref h0), (1, .int p0), (2, .int p1), (3, .int p2), (4, .int p3), (5, .int p4)]) hx hb dX9_feed_108 hl (k := 1) rfl (by decide) (by decide) rfl (fun ls hl => ?_)
  refine lv_goto (tgt := 18) hx hb dX9_feed_111 (by decide) ?_
  refine lv_iload hx hb dX9_feed_18 (lv_at hl 0 rfl) ?_
  refine lv_bipush (v := 20) hx hb dX9_feed_20 (by decide) ?_
  refine lv_icmp_ge (tgt := 114) hx hb dX9_feed_22 (by decide) (fun c_8 => absurd c_8 (by decide)) (fun c_8 => ?_)
  refine lv_iload hx hb dX9_feed_25 (lv_at hl 0 rfl) ?_
  refine lv_iconst (v := 4) hx hb dX9_feed_27 (by decide) ?_
  refine lv_icmp_ge (tgt := 35) hx hb dX9_feed_28 (by decide) (fun c_9 => absurd c_9 (by decide)) (fun c_9 => ?_)
  refine lv_iload_n hx hb dX9_feed_31 rfl (lv_at hl 3 rfl) ?_
  refine lv_goto (tgt := 71) hx hb dX9_feed_32 (by decide) ?_
  refine lv_istore (lv' := [(7, .int p0), (6, .int 1), (0, .ref h0), (1, .int p0), (2, .int p1), (3, .int p2), (4, .int p3), (5, .int p4)]) hx hb dX9_feed_71 hl (by decide) rfl (fun ls hl => ?_)
  refine lv_aload_n hx hb dX9_feed_73 rfl (lv_at hl 2 rfl) ?_
  refine va_get (D := (dC, dI)) (ci := 11) (v := .ref a9) (C := RX9) (T := TX9) (N := 60) hx hb hts iRX9 hown hK hP 0 rfl rfl 9 (by decide) (hts (.fieldLink RX9 39 "RecordBenchModel" "tape" "[I") (by decide +kernel)) (fun _ h9 => h9) fs_7h9 dX9_feed_74 ?_
  refine lv_aload_n hx hb dX9_feed_77 rfl (lv_at hl 2 rfl) ?_
  refine va_get (D := (dC, dI)) (ci := 11) (v := .int 1) (C := RX9) (T := TX9) (N := 60) hx hb hts iRX9 hown hK hP 0 rfl rfl 10 (by decide) (hts (.fieldLink RX9 132 "RecordBenchModel" "taped" "I") (by decide +kernel)) (fun _ h9 => h9) fs_7h10 dX9_feed_78 ?_
  refine lv_iload hx hb dX9_feed_81 (lv_at hl 0 rfl) ?_
  refine lv_bipush (v := 8) hx hb dX9_feed_83 (by decide) ?_
  refine lv_iconst (v := 3) hx hb dX9_feed_85 (by decide) ?_
  refine lv_iload hx hb dX9_feed_86 (lv_at hl 1 rfl) ?_
  refine lv_iconst (v := 4) hx hb dX9_feed_88 (by decide) ?_
  refine lv_irem hx hb dX9_feed_89 (by decide) ?_
  refine W_toi (y := 1) (by decide) ?_
  refine lv_isub hx hb dX9_feed_90 ?_
  refine W_toi (y := 2) (by decide) ?_
  refine lv_imul hx hb dX9_feed_91 ?_
  refine W_toi (y := 16) (by decide) ?_
  refine lv_ishr hx hb dX9_feed_92 ?_
  refine lv_topi (fun z_10 ez_10 => ?_)
  refine lv_sipush (v := 255) hx hb dX9_feed_93 (by decide) ?_
  refine lv_iand hx hb dX9_feed_96 ?_
  refine lv_topi (fun z_11 ez_11 => ?_)
  refine va_iast hx hb hK hP hD hS 1 0 rfl rfl (by unfold vp_in; decide) dX9_feed_97 (fun H locs hP hD hS => ?_)
  obtain ⟨f_12, ef_12⟩ : ∃ y : Nat → Int32, y = upd f_6 (1 : Int32).toNatClampNeg z_11 := ⟨_, rfl⟩
  have hP : va_P (dC, dI) vwCl [(h0, .inr (11, fs_7)), (a9, .inl (c9, 400, .inl f_12))] H := by rw [ef_12]; exact hP
  have hD : va_D A [(h0, .inr (11, fs_7)), (a9, .inl (c9, 400, .inl f_12))] := by rw [ef_12]; exact hD
  refine lv_aload_n hx hb dX9_feed_98 rfl (lv_at hl 2 rfl) ?_
  refine lv_dup hx hb dX9_feed_99 rfl ?_
  refine va_get (D := (dC, dI)) (ci := 11) (v := .int 1) (C := RX9) (T := TX9) (N := 60) hx hb hts iRX9 hown hK hP 0 rfl rfl 10 (by decide) (hts (.fieldLink RX9 132 "RecordBenchModel" "taped" "I") (by decide +kernel)) (fun _ h9 => h9) fs_7h10 dX9_feed_100 ?_
  refine lv_iconst (v := 1) hx hb dX9_feed_103 (by decide) ?_
  refine lv_iadd hx hb dX9_feed_104 ?_
  refine W_toi (y := 2) (by decide) ?_
  refine va_put (D := (dC, dI)) (ci := 11) (v := .int 2) (ty := .int) (C := RX9) (T := TX9) (N := 60) hx hb hts iRX9 tyX9 tyX9_ok nmX9 hown hK hP hD hS 0 rfl rfl 10 (by decide) (hts (.fieldLink RX9 132 "RecordBenchModel" "taped" "I") (by decide +kernel)) (fun _ h9 => h9) rfl (by decide +kernel) rfl rfl (by have := lfs_7; omega) dX9_feed_105 (fun H locs hP hD hS => ?_)
  obtain ⟨fs_13, efs_13⟩ : ∃ y, y = fs_7.set 10 (.int 2) := ⟨_, rfl⟩
  rw [← efs_13] at hP hD
  have lfs_13 : fs_13.length = 60 := by rw [efs_13, List.length_set]; exact lfs_7
  have fs_13h9 : fs_13[9]? = some (.ref a9) := by rw [efs_13, List.getElem?_set_ne (by decide)]; exact fs_7h9
  have fs_13h10 : fs_13[10]? = some (.int 2) := by rw [efs_13, List.getElem?_set_self (by have := lfs_7; omega)]
  have hP : va_P (dC, dI) vwCl [(h0, .inr (11, fs_13)), (a9, .inl (c9, 400, .inl f_12))] H := hP
  have hD : va_D A [(h0, .inr (11, fs_13)), (a9, .inl (c9, 400, .inl f_12))] := hD
  refine lv_iinc (v := 2) (lv' := [(6, .int 2), (7, .int p0), (0, .ref h0), (1, .int p0), (2, .int p1), (3, .int p2), (4, .int p3), (5, .int p4)]) hx hb dX9_feed_108 hl (k := 1) rfl (by decide) (by decide) rfl (fun ls hl => ?_)
  refine lv_goto (tgt := 18) hx hb dX9_feed_111 (by decide) ?_
  refine lv_iload hx hb dX9_feed_18 (lv_at hl 0 rfl) ?_
  refine lv_bipush (v := 20) hx hb dX9_feed_20 (by decide) ?_
  refine lv_icmp_ge (tgt := 114) hx hb dX9_feed_22 (by decide) (fun c_14 => absurd c_14 (by decide)) (fun c_14 => ?_)
  refine lv_iload hx hb dX9_feed_25 (lv_at hl 0 rfl) ?_
  refine lv_iconst (v := 4) hx hb dX9_feed_27 (by decide) ?_
  refine lv_icmp_ge (tgt := 35) hx hb dX9_feed_28 (by decide) (fun c_15 => absurd c_15 (by decide)) (fun c_15 => ?_)
  refine lv_iload_n hx hb dX9_feed_31 rfl (lv_at hl 3 rfl) ?_
  refine lv_goto (tgt := 71) hx hb dX9_feed_32 (by decide) ?_
  refine lv_istore (lv' := [(7, .int p0), (6, .int 2), (0, .ref h0), (1, .int p0), (2, .int p1), (3, .int p2), (4, .int p3), (5, .int p4)]) hx hb dX9_feed_71 hl (by decide) rfl (fun ls hl => ?_)
  refine lv_aload_n hx hb dX9_feed_73 rfl (lv_at hl 2 rfl) ?_
  refine va_get (D := (dC, dI)) (ci := 11) (v := .ref a9) (C := RX9) (T := TX9) (N := 60) hx hb hts iRX9 hown hK hP 0 rfl rfl 9 (by decide) (hts (.fieldLink RX9 39 "RecordBenchModel" "tape" "[I") (by decide +kernel)) (fun _ h9 => h9) fs_13h9 dX9_feed_74 ?_
  refine lv_aload_n hx hb dX9_feed_77 rfl (lv_at hl 2 rfl) ?_
  refine va_get (D := (dC, dI)) (ci := 11) (v := .int 2) (C := RX9) (T := TX9) (N := 60) hx hb hts iRX9 hown hK hP 0 rfl rfl 10 (by decide) (hts (.fieldLink RX9 132 "RecordBenchModel" "taped" "I") (by decide +kernel)) (fun _ h9 => h9) fs_13h10 dX9_feed_78 ?_
  refine lv_iload hx hb dX9_feed_81 (lv_at hl 0 rfl) ?_
  refine lv_bipush (v := 8) hx hb dX9_feed_83 (by decide) ?_
  refine lv_iconst (v := 3) hx hb dX9_feed_85 (by decide) ?_
  refine lv_iload hx hb dX9_feed_86 (lv_at hl 1 rfl) ?_
  refine lv_iconst (v := 4) hx hb dX9_feed_88 (by decide) ?_
  refine lv_irem hx hb dX9_feed_89 (by decide) ?_
  refine W_toi (y := 2) (by decide) ?_
  refine lv_isub hx hb dX9_feed_90 ?_
  refine W_toi (y := 1) (by decide) ?_
  refine lv_imul hx hb dX9_feed_91 ?_
  refine W_toi (y := 8) (by decide) ?_
  refine lv_ishr hx hb dX9_feed_92 ?_
  refine lv_topi (fun z_16 ez_16 => ?_)
  refine lv_sipush (v := 255) hx hb dX9_feed_93 (by decide) ?_
  refine lv_iand hx hb dX9_feed_96 ?_
  refine lv_topi (fun z_17 ez_17 => ?_)
  refine va_iast hx hb hK hP hD hS 1 0 rfl rfl (by unfold vp_in; decide) dX9_feed_97 (fun H locs hP hD hS => ?_)
  obtain ⟨f_18, ef_18⟩ : ∃ y : Nat → Int32, y = upd f_12 (2 : Int32).toNatClampNeg z_17 := ⟨_, rfl⟩
  have hP : va_P (dC, dI) vwCl [(h0, .inr (11, fs_13)), (a9, .inl (c9, 400, .inl f_18))] H := by rw [ef_18]; exact hP
  have hD : va_D A [(h0, .inr (11, fs_13)), (a9, .inl (c9, 400, .inl f_18))] := by rw [ef_18]; exact hD
  refine lv_aload_n hx hb dX9_feed_98 rfl (lv_at hl 2 rfl) ?_
  refine lv_dup hx hb dX9_feed_99 rfl ?_
  refine va_get (D := (dC, dI)) (ci := 11) (v := .int 2) (C := RX9) (T := TX9) (N := 60) hx hb hts iRX9 hown hK hP 0 rfl rfl 10 (by decide) (hts (.fieldLink RX9 132 "RecordBenchModel" "taped" "I") (by decide +kernel)) (fun _ h9 => h9) fs_13h10 dX9_feed_100 ?_
  refine lv_iconst (v := 1) hx hb dX9_feed_103 (by decide) ?_
  refine lv_iadd hx hb dX9_feed_104 ?_
  refine W_toi (y := 3) (by decide) ?_
  refine va_put (D := (dC, dI)) (ci := 11) (v := .int 3) (ty := .int) (C := RX9) (T := TX9) (N := 60) hx hb hts iRX9 tyX9 tyX9_ok nmX9 hown hK hP hD hS 0 rfl rfl 10 (by decide) (hts (.fieldLink RX9 132 "RecordBenchModel" "taped" "I") (by decide +kernel)) (fun _ h9 => h9) rfl (by decide +kernel) rfl rfl (by have := lfs_13; omega) dX9_feed_105 (fun H locs hP hD hS => ?_)
  obtain ⟨fs_19, efs_19⟩ : ∃ y, y = fs_13.set 10 (.int 3) := ⟨_, rfl⟩
  rw [← efs_19] at hP hD
  have lfs_19 : fs_19.length = 60 := by rw [efs_19, List.length_set]; exact lfs_13
  have fs_19h9 : fs_19[9]? = some (.ref a9) := by rw [efs_19, List.getElem?_set_ne (by decide)]; exact fs_13h9
  have fs_19h10 : fs_19[10]? = some (.int 3) := by rw [efs_19, List.getElem?_set_self (by have := lfs_13; omega)]
  have hP : va_P (dC, dI) vwCl [(h0, .inr (11, fs_19)), (a9, .inl (c9, 400, .inl f_18))] H := hP
  have hD : va_D A [(h0, .inr (11, fs_19)), (a9, .inl (c9, 400, .inl f_18))] := hD
  refine lv_iinc (v := 3) (lv' := [(6, .int 3), (7, .int p0), (0, .ref h0), (1, .int p0), (2, .int p1), (3, .int p2), (4, .int p3), (5, .int p4)]) hx hb dX9_feed_108 hl (k := 1) rfl (by decide) (by decide) rfl (fun ls hl => ?_)
  refine lv_goto (tgt := 18) hx hb dX9_feed_111 (by decide) ?_
  refine lv_iload hx hb dX9_feed_18 (lv_at hl 0 rfl) ?_
  refine lv_bipush (v := 20) hx hb dX9_feed_20 (by decide) ?_
  refine lv_icmp_ge (tgt := 114) hx hb dX9_feed_22 (by decide) (fun c_20 => absurd c_20 (by decide)) (fun c_20 => ?_)
  refine lv_iload hx hb dX9_feed_25 (lv_at hl 0 rfl) ?_
  refine lv_iconst (v := 4) hx hb dX9_feed_27 (by decide) ?_
  refine lv_icmp_ge (tgt := 35) hx hb dX9_feed_28 (by decide) (fun c_21 => absurd c_21 (by decide)) (fun c_21 => ?_)
  refine lv_iload_n hx hb dX9_feed_31 rfl (lv_at hl 3 rfl) ?_
  refine lv_goto (tgt := 71) hx hb dX9_feed_32 (by decide) ?_
  refine lv_istore (lv' := [(7, .int p0), (6, .int 3), (0, .ref h0), (1, .int p0), (2, .int p1), (3, .int p2), (4, .int p3), (5, .int p4)]) hx hb dX9_feed_71 hl (by decide) rfl (fun ls hl => ?_)
  refine lv_aload_n hx hb dX9_feed_73 rfl (lv_at hl 2 rfl) ?_
  refine va_get (D := (dC, dI)) (ci := 11) (v := .ref a9) (C := RX9) (T := TX9) (N := 60) hx hb hts iRX9 hown hK hP 0 rfl rfl 9 (by decide) (hts (.fieldLink RX9 39 "RecordBenchModel" "tape" "[I") (by decide +kernel)) (fun _ h9 => h9) fs_19h9 dX9_feed_74 ?_
  refine lv_aload_n hx hb dX9_feed_77 rfl (lv_at hl 2 rfl) ?_
  refine va_get (D := (dC, dI)) (ci := 11) (v := .int 3) (C := RX9) (T := TX9) (N := 60) hx hb hts iRX9 hown hK hP 0 rfl rfl 10 (by decide) (hts (.fieldLink RX9 132 "RecordBenchModel" "taped" "I") (by decide +kernel)) (fun _ h9 => h9) fs_19h10 dX9_feed_78 ?_
  refine lv_iload hx hb dX9_feed_81 (lv_at hl 0 rfl) ?_
  refine lv_bipush (v := 8) hx hb dX9_feed_83 (by decide) ?_
  refine lv_iconst (v := 3) hx hb dX9_feed_85 (by decide) ?_
  refine lv_iload hx hb dX9_feed_86 (lv_at hl 1 rfl) ?_
  refine lv_iconst (v := 4) hx hb dX9_feed_88 (by decide) ?_
  refine lv_irem hx hb dX9_feed_89 (by decide) ?_
  refine W_toi (y := 3) (by decide) ?_
  refine lv_isub hx hb dX9_feed_90 ?_
  refine W_toi (y := 0) (by decide) ?_
  refine lv_imul hx hb dX9_feed_91 ?_
  refine W_toi (y := 0) (by decide) ?_
  refine lv_ishr hx hb dX9_feed_92 ?_
  refine lv_topi (fun z_22 ez_22 => ?_)
  refine lv_sipush (v := 255) hx hb dX9_feed_93 (by decide) ?_
  refine lv_iand hx hb dX9_feed_96 ?_
  refine lv_topi (fun z_23 ez_23 => ?_)
  refine va_iast hx hb hK hP hD hS 1 0 rfl rfl (by unfold vp_in; decide) dX9_feed_97 (fun H locs hP hD hS => ?_)
  obtain ⟨f_24, ef_24⟩ : ∃ y : Nat → Int32, y = upd f_18 (3 : Int32).toNatClampNeg z_23 := ⟨_, rfl⟩
  have hP : va_P (dC, dI) vwCl [(h0, .inr (11, fs_19)), (a9, .inl (c9, 400, .inl f_24))] H := by rw [ef_24]; exact hP
  have hD : va_D A [(h0, .inr (11, fs_19)), (a9, .inl (c9, 400, .inl f_24))] := by rw [ef_24]; exact hD
  refine lv_aload_n hx hb dX9_feed_98 rfl (lv_at hl 2 rfl) ?_
  refine lv_dup hx hb dX9_feed_99 rfl ?_
  refine va_get (D := (dC, dI)) (ci := 11) (v := .int 3) (C := RX9) (T := TX9) (N := 60) hx hb hts iRX9 hown hK hP 0 rfl rfl 10 (by decide) (hts (.fieldLink RX9 132 "RecordBenchModel" "taped" "I") (by decide +kernel)) (fun _ h9 => h9) fs_19h10 dX9_feed_100 ?_
  refine lv_iconst (v := 1) hx hb dX9_feed_103 (by decide) ?_
  refine lv_iadd hx hb dX9_feed_104 ?_
  refine W_toi (y := 4) (by decide) ?_
  refine va_put (D := (dC, dI)) (ci := 11) (v := .int 4) (ty := .int) (C := RX9) (T := TX9) (N := 60) hx hb hts iRX9 tyX9 tyX9_ok nmX9 hown hK hP hD hS 0 rfl rfl 10 (by decide) (hts (.fieldLink RX9 132 "RecordBenchModel" "taped" "I") (by decide +kernel)) (fun _ h9 => h9) rfl (by decide +kernel) rfl rfl (by have := lfs_19; omega) dX9_feed_105 (fun H locs hP hD hS => ?_)
  obtain ⟨fs_25, efs_25⟩ : ∃ y, y = fs_19.set 10 (.int 4) := ⟨_, rfl⟩
  rw [← efs_25] at hP hD
  have lfs_25 : fs_25.length = 60 := by rw [efs_25, List.length_set]; exact lfs_19
  have fs_25h9 : fs_25[9]? = some (.ref a9) := by rw [efs_25, List.getElem?_set_ne (by decide)]; exact fs_19h9
  have fs_25h10 : fs_25[10]? = some (.int 4) := by rw [efs_25, List.getElem?_set_self (by have := lfs_19; omega)]
  have hP : va_P (dC, dI) vwCl [(h0, .inr (11, fs_25)), (a9, .inl (c9, 400, .inl f_24))] H := hP
  have hD : va_D A [(h0, .inr (11, fs_25)), (a9, .inl (c9, 400, .inl f_24))] := hD
  refine lv_iinc (v := 4) (lv' := [(6, .int 4), (7, .int p0), (0, .ref h0), (1, .int p0), (2, .int p1), (3, .int p2), (4, .int p3), (5, .int p4)]) hx hb dX9_feed_108 hl (k := 1) rfl (by decide) (by decide) rfl (fun ls hl => ?_)
  refine lv_goto (tgt := 18) hx hb dX9_feed_111 (by decide) ?_
  refine lv_iload hx hb dX9_feed_18 (lv_at hl 0 rfl) ?_
  refine lv_bipush (v := 20) hx hb dX9_feed_20 (by decide) ?_
  refine lv_icmp_ge (tgt := 114) hx hb dX9_feed_22 (by decide) (fun c_26 => absurd c_26 (by decide)) (fun c_26 => ?_)
  refine lv_iload hx hb dX9_feed_25 (lv_at hl 0 rfl) ?_
  refine lv_iconst (v := 4) hx hb dX9_feed_27 (by decide) ?_
  refine lv_icmp_ge (tgt := 35) hx hb dX9_feed_28 (by decide) (fun c_27 => ?_) (fun c_27 => absurd (by decide) c_27)
  refine lv_iload hx hb dX9_feed_35 (lv_at hl 0 rfl) ?_
  refine lv_bipush (v := 8) hx hb dX9_feed_37 (by decide) ?_
  refine lv_icmp_ge (tgt := 46) hx hb dX9_feed_39 (by decide) (fun c_28 => absurd c_28 (by decide)) (fun c_28 => ?_)
  refine lv_iload_n hx hb dX9_feed_42 rfl (lv_at hl 4 rfl) ?_
  refine lv_goto (tgt := 71) hx hb dX9_feed_43 (by decide) ?_
  refine lv_istore (lv' := [(7, .int p1), (6, .int 4), (0, .ref h0), (1, .int p0), (2, .int p1), (3, .int p2), (4, .int p3), (5, .int p4)]) hx hb dX9_feed_71 hl (by decide) rfl (fun ls hl => ?_)
  refine lv_aload_n hx hb dX9_feed_73 rfl (lv_at hl 2 rfl) ?_
  refine va_get (D := (dC, dI)) (ci := 11) (v := .ref a9) (C := RX9) (T := TX9) (N := 60) hx hb hts iRX9 hown hK hP 0 rfl rfl 9 (by decide) (hts (.fieldLink RX9 39 "RecordBenchModel" "tape" "[I") (by decide +kernel)) (fun _ h9 => h9) fs_25h9 dX9_feed_74 ?_
  refine lv_aload_n hx hb dX9_feed_77 rfl (lv_at hl 2 rfl) ?_
  refine va_get (D := (dC, dI)) (ci := 11) (v := .int 4) (C := RX9) (T := TX9) (N := 60) hx hb hts iRX9 hown hK hP 0 rfl rfl 10 (by decide) (hts (.fieldLink RX9 132 "RecordBenchModel" "taped" "I") (by decide +kernel)) (fun _ h9 => h9) fs_25h10 dX9_feed_78 ?_
  refine lv_iload hx hb dX9_feed_81 (lv_at hl 0 rfl) ?_
  refine lv_bipush (v := 8) hx hb dX9_feed_83 (by decide) ?_
  refine lv_iconst (v := 3) hx hb dX9_feed_85 (by decide) ?_
  refine lv_iload hx hb dX9_feed_86 (lv_at hl 1 rfl) ?_
  refine lv_iconst (v := 4) hx hb dX9_feed_88 (by decide) ?_
  refine lv_irem hx hb dX9_feed_89 (by decide) ?_
  refine W_toi (y := 0) (by decide) ?_
  refine lv_isub hx hb dX9_feed_90 ?_
  refine W_toi (y := 3) (by decide) ?_
  refine lv_imul hx hb dX9_feed_91 ?_
  refine W_toi (y := 24) (by decide) ?_
  refine lv_ishr hx hb dX9_feed_92 ?_
  refine lv_topi (fun z_29 ez_29 => ?_)
  refine lv_sipush (v := 255) hx hb dX9_feed_93 (by decide) ?_
  refine lv_iand hx hb dX9_feed_96 ?_
  refine lv_topi (fun z_30 ez_30 => ?_)
  refine va_iast hx hb hK hP hD hS 1 0 rfl rfl (by unfold vp_in; decide) dX9_feed_97 (fun H locs hP hD hS => ?_)
  obtain ⟨f_31, ef_31⟩ : ∃ y : Nat → Int32, y = upd f_24 (4 : Int32).toNatClampNeg z_30 := ⟨_, rfl⟩
  have hP : va_P (dC, dI) vwCl [(h0, .inr (11, fs_25)), (a9, .inl (c9, 400, .inl f_31))] H := by rw [ef_31]; exact hP
  have hD : va_D A [(h0, .inr (11, fs_25)), (a9, .inl (c9, 400, .inl f_31))] := by rw [ef_31]; exact hD
  refine lv_aload_n hx hb dX9_feed_98 rfl (lv_at hl 2 rfl) ?_
  refine lv_dup hx hb dX9_feed_99 rfl ?_
  refine va_get (D := (dC, dI)) (ci := 11) (v := .int 4) (C := RX9) (T := TX9) (N := 60) hx hb hts iRX9 hown hK hP 0 rfl rfl 10 (by decide) (hts (.fieldLink RX9 132 "RecordBenchModel" "taped" "I") (by decide +kernel)) (fun _ h9 => h9) fs_25h10 dX9_feed_100 ?_
  refine lv_iconst (v := 1) hx hb dX9_feed_103 (by decide) ?_
  refine lv_iadd hx hb dX9_feed_104 ?_
  refine W_toi (y := 5) (by decide) ?_
  refine va_put (D := (dC, dI)) (ci := 11) (v := .int 5) (ty := .int) (C := RX9) (T := TX9) (N := 60) hx hb hts iRX9 tyX9 tyX9_ok nmX9 hown hK hP hD hS 0 rfl rfl 10 (by decide) (hts (.fieldLink RX9 132 "RecordBenchModel" "taped" "I") (by decide +kernel)) (fun _ h9 => h9) rfl (by decide +kernel) rfl rfl (by have := lfs_25; omega) dX9_feed_105 (fun H locs hP hD hS => ?_)
  obtain ⟨fs_32, efs_32⟩ : ∃ y, y = fs_25.set 10 (.int 5) := ⟨_, rfl⟩
  rw [← efs_32] at hP hD
  have lfs_32 : fs_32.length = 60 := by rw [efs_32, List.length_set]; exact lfs_25
  have fs_32h9 : fs_32[9]? = some (.ref a9) := by rw [efs_32, List.getElem?_set_ne (by decide)]; exact fs_25h9
  have fs_32h10 : fs_32[10]? = some (.int 5) := by rw [efs_32, List.getElem?_set_self (by have := lfs_25; omega)]
  have hP : va_P (dC, dI) vwCl [(h0, .inr (11, fs_32)), (a9, .inl (c9, 400, .inl f_31))] H := hP
  have hD : va_D A [(h0, .inr (11, fs_32)), (a9, .inl (c9, 400, .inl f_31))] := hD
  refine lv_iinc (v := 5) (lv' := [(6, .int 5), (7, .int p1), (0, .ref h0), (1, .int p0), (2, .int p1), (3, .int p2), (4, .int p3), (5, .int p4)]) hx hb dX9_feed_108 hl (k := 1) rfl (by decide) (by decide) rfl (fun ls hl => ?_)
  refine lv_goto (tgt := 18) hx hb dX9_feed_111 (by decide) ?_
  refine lv_iload hx hb dX9_feed_18 (lv_at hl 0 rfl) ?_
  refine lv_bipush (v := 20) hx hb dX9_feed_20 (by decide) ?_
  refine lv_icmp_ge (tgt := 114) hx hb dX9_feed_22 (by decide) (fun c_33 => absurd c_33 (by decide)) (fun c_33 => ?_)
  refine lv_iload hx hb dX9_feed_25 (lv_at hl 0 rfl) ?_
  refine lv_iconst (v := 4) hx hb dX9_feed_27 (by decide) ?_
  refine lv_icmp_ge (tgt := 35) hx hb dX9_feed_28 (by decide) (fun c_34 => ?_) (fun c_34 => absurd (by decide) c_34)
  refine lv_iload hx hb dX9_feed_35 (lv_at hl 0 rfl) ?_
  refine lv_bipush (v := 8) hx hb dX9_feed_37 (by decide) ?_
  refine lv_icmp_ge (tgt := 46) hx hb dX9_feed_39 (by decide) (fun c_35 => absurd c_35 (by decide)) (fun c_35 => ?_)
  refine lv_iload_n hx hb dX9_feed_42 rfl (lv_at hl 4 rfl) ?_
  refine lv_goto (tgt := 71) hx hb dX9_feed_43 (by decide) ?_
  refine lv_istore (lv' := [(7, .int p1), (6, .int 5), (0, .ref h0), (1, .int p0), (2, .int p1), (3, .int p2), (4, .int p3), (5, .int p4)]) hx hb dX9_feed_71 hl (by decide) rfl (fun ls hl => ?_)
  refine lv_aload_n hx hb dX9_feed_73 rfl (lv_at hl 2 rfl) ?_
  refine va_get (D := (dC, dI)) (ci := 11) (v := .ref a9) (C := RX9) (T := TX9) (N := 60) hx hb hts iRX9 hown hK hP 0 rfl rfl 9 (by decide) (hts (.fieldLink RX9 39 "RecordBenchModel" "tape" "[I") (by decide +kernel)) (fun _ h9 => h9) fs_32h9 dX9_feed_74 ?_
  refine lv_aload_n hx hb dX9_feed_77 rfl (lv_at hl 2 rfl) ?_
  refine va_get (D := (dC, dI)) (ci := 11) (v := .int 5) (C := RX9) (T := TX9) (N := 60) hx hb hts iRX9 hown hK hP 0 rfl rfl 10 (by decide) (hts (.fieldLink RX9 132 "RecordBenchModel" "taped" "I") (by decide +kernel)) (fun _ h9 => h9) fs_32h10 dX9_feed_78 ?_
  refine lv_iload hx hb dX9_feed_81 (lv_at hl 0 rfl) ?_
  refine lv_bipush (v := 8) hx hb dX9_feed_83 (by decide) ?_
  refine lv_iconst (v := 3) hx hb dX9_feed_85 (by decide) ?_
  refine lv_iload hx hb dX9_feed_86 (lv_at hl 1 rfl) ?_
  refine lv_iconst (v := 4) hx hb dX9_feed_88 (by decide) ?_
  refine lv_irem hx hb dX9_feed_89 (by decide) ?_
  refine W_toi (y := 1) (by decide) ?_
  refine lv_isub hx hb dX9_feed_90 ?_
  refine W_toi (y := 2) (by decide) ?_
  refine lv_imul hx hb dX9_feed_91 ?_
  refine W_toi (y := 16) (by decide) ?_
  refine lv_ishr hx hb dX9_feed_92 ?_
  refine lv_topi (fun z_36 ez_36 => ?_)
  refine lv_sipush (v := 255) hx hb dX9_feed_93 (by decide) ?_
  refine lv_iand hx hb dX9_feed_96 ?_
  refine lv_topi (fun z_37 ez_37 => ?_)
  refine va_iast hx hb hK hP hD hS 1 0 rfl rfl (by unfold vp_in; decide) dX9_feed_97 (fun H locs hP hD hS => ?_)
  obtain ⟨f_38, ef_38⟩ : ∃ y : Nat → Int32, y = upd f_31 (5 : Int32).toNatClampNeg z_37 := ⟨_, rfl⟩
  have hP : va_P (dC, dI) vwCl [(h0, .inr (11, fs_32)), (a9, .inl (c9, 400, .inl f_38))] H := by rw [ef_38]; exact hP
  have hD : va_D A [(h0, .inr (11, fs_32)), (a9, .inl (c9, 400, .inl f_38))] := by rw [ef_38]; exact hD
  refine lv_aload_n hx hb dX9_feed_98 rfl (lv_at hl 2 rfl) ?_
  refine lv_dup hx hb dX9_feed_99 rfl ?_
  refine va_get (D := (dC, dI)) (ci := 11) (v := .int 5) (C := RX9) (T := TX9) (N := 60) hx hb hts iRX9 hown hK hP 0 rfl rfl 10 (by decide) (hts (.fieldLink RX9 132 "RecordBenchModel" "taped" "I") (by decide +kernel)) (fun _ h9 => h9) fs_32h10 dX9_feed_100 ?_
  refine lv_iconst (v := 1) hx hb dX9_feed_103 (by decide) ?_
  refine lv_iadd hx hb dX9_feed_104 ?_
  refine W_toi (y := 6) (by decide) ?_
  refine va_put (D := (dC, dI)) (ci := 11) (v := .int 6) (ty := .int) (C := RX9) (T := TX9) (N := 60) hx hb hts iRX9 tyX9 tyX9_ok nmX9 hown hK hP hD hS 0 rfl rfl 10 (by decide) (hts (.fieldLink RX9 132 "RecordBenchModel" "taped" "I") (by decide +kernel)) (fun _ h9 => h9) rfl (by decide +kernel) rfl rfl (by have := lfs_32; omega) dX9_feed_105 (fun H locs hP hD hS => ?_)
  obtain ⟨fs_39, efs_39⟩ : ∃ y, y = fs_32.set 10 (.int 6) := ⟨_, rfl⟩
  rw [← efs_39] at hP hD
  have lfs_39 : fs_39.length = 60 := by rw [efs_39, List.length_set]; exact lfs_32
  have fs_39h9 : fs_39[9]? = some (.ref a9) := by rw [efs_39, List.getElem?_set_ne (by decide)]; exact fs_32h9
  have fs_39h10 : fs_39[10]? = some (.int 6) := by rw [efs_39, List.getElem?_set_self (by have := lfs_32; omega)]
  have hP : va_P (dC, dI) vwCl [(h0, .inr (11, fs_39)), (a9, .inl (c9, 400, .inl f_38))] H := hP
  have hD : va_D A [(h0, .inr (11, fs_39)), (a9, .inl (c9, 400, .inl f_38))] := hD
  refine lv_iinc (v := 6) (lv' := [(6, .int 6), (7, .int p1), (0, .ref h0), (1, .int p0), (2, .int p1), (3, .int p2), (4, .int p3), (5, .int p4)]) hx hb dX9_feed_108 hl (k := 1) rfl (by decide) (by decide) rfl (fun ls hl => ?_)
  refine lv_goto (tgt := 18) hx hb dX9_feed_111 (by decide) ?_
  refine lv_iload hx hb dX9_feed_18 (lv_at hl 0 rfl) ?_
  refine lv_bipush (v := 20) hx hb dX9_feed_20 (by decide) ?_
  refine lv_icmp_ge (tgt := 114) hx hb dX9_feed_22 (by decide) (fun c_40 => absurd c_40 (by decide)) (fun c_40 => ?_)
  refine lv_iload hx hb dX9_feed_25 (lv_at hl 0 rfl) ?_
  refine lv_iconst (v := 4) hx hb dX9_feed_27 (by decide) ?_
  refine lv_icmp_ge (tgt := 35) hx hb dX9_feed_28 (by decide) (fun c_41 => ?_) (fun c_41 => absurd (by decide) c_41)
  refine lv_iload hx hb dX9_feed_35 (lv_at hl 0 rfl) ?_
  refine lv_bipush (v := 8) hx hb dX9_feed_37 (by decide) ?_
  refine lv_icmp_ge (tgt := 46) hx hb dX9_feed_39 (by decide) (fun c_42 => absurd c_42 (by decide)) (fun c_42 => ?_)
  refine lv_iload_n hx hb dX9_feed_42 rfl (lv_at hl 4 rfl) ?_
  refine lv_goto (tgt := 71) hx hb dX9_feed_43 (by decide) ?_
  refine lv_istore (lv' := [(7, .int p1), (6, .int 6), (0, .ref h0), (1, .int p0), (2, .int p1), (3, .int p2), (4, .int p3), (5, .int p4)]) hx hb dX9_feed_71 hl (by decide) rfl (fun ls hl => ?_)
  refine lv_aload_n hx hb dX9_feed_73 rfl (lv_at hl 2 rfl) ?_
  refine va_get (D := (dC, dI)) (ci := 11) (v := .ref a9) (C := RX9) (T := TX9) (N := 60) hx hb hts iRX9 hown hK hP 0 rfl rfl 9 (by decide) (hts (.fieldLink RX9 39 "RecordBenchModel" "tape" "[I") (by decide +kernel)) (fun _ h9 => h9) fs_39h9 dX9_feed_74 ?_
  refine lv_aload_n hx hb dX9_feed_77 rfl (lv_at hl 2 rfl) ?_
  refine va_get (D := (dC, dI)) (ci := 11) (v := .int 6) (C := RX9) (T := TX9) (N := 60) hx hb hts iRX9 hown hK hP 0 rfl rfl 10 (by decide) (hts (.fieldLink RX9 132 "RecordBenchModel" "taped" "I") (by decide +kernel)) (fun _ h9 => h9) fs_39h10 dX9_feed_78 ?_
  refine lv_iload hx hb dX9_feed_81 (lv_at hl 0 rfl) ?_
  refine lv_bipush (v := 8) hx hb dX9_feed_83 (by decide) ?_
  refine lv_iconst (v := 3) hx hb dX9_feed_85 (by decide) ?_
  refine lv_iload hx hb dX9_feed_86 (lv_at hl 1 rfl) ?_
  refine lv_iconst (v := 4) hx hb dX9_feed_88 (by decide) ?_
  refine lv_irem hx hb dX9_feed_89 (by decide) ?_
  refine W_toi (y := 2) (by decide) ?_
  refine lv_isub hx hb dX9_feed_90 ?_
  refine W_toi (y := 1) (by decide) ?_
  refine lv_imul hx hb dX9_feed_91 ?_
  refine W_toi (y := 8) (by decide) ?_
  refine lv_ishr hx hb dX9_feed_92 ?_
  refine lv_topi (fun z_43 ez_43 => ?_)
  refine lv_sipush (v := 255) hx hb dX9_feed_93 (by decide) ?_
  refine lv_iand hx hb dX9_feed_96 ?_
  refine lv_topi (fun z_44 ez_44 => ?_)
  refine va_iast hx hb hK hP hD hS 1 0 rfl rfl (by unfold vp_in; decide) dX9_feed_97 (fun H locs hP hD hS => ?_)
  obtain ⟨f_45, ef_45⟩ : ∃ y : Nat → Int32, y = upd f_38 (6 : Int32).toNatClampNeg z_44 := ⟨_, rfl⟩
  have hP : va_P (dC, dI) vwCl [(h0, .inr (11, fs_39)), (a9, .inl (c9, 400, .inl f_45))] H := by rw [ef_45]; exact hP
  have hD : va_D A [(h0, .inr (11, fs_39)), (a9, .inl (c9, 400, .inl f_45))] := by rw [ef_45]; exact hD
  refine lv_aload_n hx hb dX9_feed_98 rfl (lv_at hl 2 rfl) ?_
  refine lv_dup hx hb dX9_feed_99 rfl ?_
  refine va_get (D := (dC, dI)) (ci := 11) (v := .int 6) (C := RX9) (T := TX9) (N := 60) hx hb hts iRX9 hown hK hP 0 rfl rfl 10 (by decide) (hts (.fieldLink RX9 132 "RecordBenchModel" "taped" "I") (by decide +kernel)) (fun _ h9 => h9) fs_39h10 dX9_feed_100 ?_
  refine lv_iconst (v := 1) hx hb dX9_feed_103 (by decide) ?_
  refine lv_iadd hx hb dX9_feed_104 ?_
  refine W_toi (y := 7) (by decide) ?_
  refine va_put (D := (dC, dI)) (ci := 11) (v := .int 7) (ty := .int) (C := RX9) (T := TX9) (N := 60) hx hb hts iRX9 tyX9 tyX9_ok nmX9 hown hK hP hD hS 0 rfl rfl 10 (by decide) (hts (.fieldLink RX9 132 "RecordBenchModel" "taped" "I") (by decide +kernel)) (fun _ h9 => h9) rfl (by decide +kernel) rfl rfl (by have := lfs_39; omega) dX9_feed_105 (fun H locs hP hD hS => ?_)
  obtain ⟨fs_46, efs_46⟩ : ∃ y, y = fs_39.set 10 (.int 7) := ⟨_, rfl⟩
  rw [← efs_46] at hP hD
  have lfs_46 : fs_46.length = 60 := by rw [efs_46, List.length_set]; exact lfs_39
  have fs_46h9 : fs_46[9]? = some (.ref a9) := by rw [efs_46, List.getElem?_set_ne (by decide)]; exact fs_39h9
  have fs_46h10 : fs_46[10]? = some (.int 7) := by rw [efs_46, List.getElem?_set_self (by have := lfs_39; omega)]
  have hP : va_P (dC, dI) vwCl [(h0, .inr (11, fs_46)), (a9, .inl (c9, 400, .inl f_45))] H := hP
  have hD : va_D A [(h0, .inr (11, fs_46)), (a9, .inl (c9, 400, .inl f_45))] := hD
  refine lv_iinc (v := 7) (lv' := [(6, .int 7), (7, .int p1), (0, .ref h0), (1, .int p0), (2, .int p1), (3, .int p2), (4, .int p3), (5, .int p4)]) hx hb dX9_feed_108 hl (k := 1) rfl (by decide) (by decide) rfl (fun ls hl => ?_)
  refine lv_goto (tgt := 18) hx hb dX9_feed_111 (by decide) ?_
  refine lv_iload hx hb dX9_feed_18 (lv_at hl 0 rfl) ?_
  refine lv_bipush (v := 20) hx hb dX9_feed_20 (by decide) ?_
  refine lv_icmp_ge (tgt := 114) hx hb dX9_feed_22 (by decide) (fun c_47 => absurd c_47 (by decide)) (fun c_47 => ?_)
  refine lv_iload hx hb dX9_feed_25 (lv_at hl 0 rfl) ?_
  refine lv_iconst (v := 4) hx hb dX9_feed_27 (by decide) ?_
  refine lv_icmp_ge (tgt := 35) hx hb dX9_feed_28 (by decide) (fun c_48 => ?_) (fun c_48 => absurd (by decide) c_48)
  refine lv_iload hx hb dX9_feed_35 (lv_at hl 0 rfl) ?_
  refine lv_bipush (v := 8) hx hb dX9_feed_37 (by decide) ?_
  refine lv_icmp_ge (tgt := 46) hx hb dX9_feed_39 (by decide) (fun c_49 => absurd c_49 (by decide)) (fun c_49 => ?_)
  refine lv_iload_n hx hb dX9_feed_42 rfl (lv_at hl 4 rfl) ?_
  refine lv_goto (tgt := 71) hx hb dX9_feed_43 (by decide) ?_
  refine lv_istore (lv' := [(7, .int p1), (6, .int 7), (0, .ref h0), (1, .int p0), (2, .int p1), (3, .int p2), (4, .int p3), (5, .int p4)]) hx hb dX9_feed_71 hl (by decide) rfl (fun ls hl => ?_)
  refine lv_aload_n hx hb dX9_feed_73 rfl (lv_at hl 2 rfl) ?_
  refine va_get (D := (dC, dI)) (ci := 11) (v := .ref a9) (C := RX9) (T := TX9) (N := 60) hx hb hts iRX9 hown hK hP 0 rfl rfl 9 (by decide) (hts (.fieldLink RX9 39 "RecordBenchModel" "tape" "[I") (by decide +kernel)) (fun _ h9 => h9) fs_46h9 dX9_feed_74 ?_
  refine lv_aload_n hx hb dX9_feed_77 rfl (lv_at hl 2 rfl) ?_
  refine va_get (D := (dC, dI)) (ci := 11) (v := .int 7) (C := RX9) (T := TX9) (N := 60) hx hb hts iRX9 hown hK hP 0 rfl rfl 10 (by decide) (hts (.fieldLink RX9 132 "RecordBenchModel" "taped" "I") (by decide +kernel)) (fun _ h9 => h9) fs_46h10 dX9_feed_78 ?_
  refine lv_iload hx hb dX9_feed_81 (lv_at hl 0 rfl) ?_
  refine lv_bipush (v := 8) hx hb dX9_feed_83 (by decide) ?_
  refine lv_iconst (v := 3) hx hb dX9_feed_85 (by decide) ?_
  refine lv_iload hx hb dX9_feed_86 (lv_at hl 1 rfl) ?_
  refine lv_iconst (v := 4) hx hb dX9_feed_88 (by decide) ?_
  refine lv_irem hx hb dX9_feed_89 (by decide) ?_
  refine W_toi (y := 3) (by decide) ?_
  refine lv_isub hx hb dX9_feed_90 ?_
  refine W_toi (y := 0) (by decide) ?_
  refine lv_imul hx hb dX9_feed_91 ?_
  refine W_toi (y := 0) (by decide) ?_
  refine lv_ishr hx hb dX9_feed_92 ?_
  refine lv_topi (fun z_50 ez_50 => ?_)
  refine lv_sipush (v := 255) hx hb dX9_feed_93 (by decide) ?_
  refine lv_iand hx hb dX9_feed_96 ?_
  refine lv_topi (fun z_51 ez_51 => ?_)
  refine va_iast hx hb hK hP hD hS 1 0 rfl rfl (by unfold vp_in; decide) dX9_feed_97 (fun H locs hP hD hS => ?_)
  obtain ⟨f_52, ef_52⟩ : ∃ y : Nat → Int32, y = upd f_45 (7 : Int32).toNatClampNeg z_51 := ⟨_, rfl⟩
  have hP : va_P (dC, dI) vwCl [(h0, .inr (11, fs_46)), (a9, .inl (c9, 400, .inl f_52))] H := by rw [ef_52]; exact hP
  have hD : va_D A [(h0, .inr (11, fs_46)), (a9, .inl (c9, 400, .inl f_52))] := by rw [ef_52]; exact hD
  refine lv_aload_n hx hb dX9_feed_98 rfl (lv_at hl 2 rfl) ?_
  refine lv_dup hx hb dX9_feed_99 rfl ?_
  refine va_get (D := (dC, dI)) (ci := 11) (v := .int 7) (C := RX9) (T := TX9) (N := 60) hx hb hts iRX9 hown hK hP 0 rfl rfl 10 (by decide) (hts (.fieldLink RX9 132 "RecordBenchModel" "taped" "I") (by decide +kernel)) (fun _ h9 => h9) fs_46h10 dX9_feed_100 ?_
  refine lv_iconst (v := 1) hx hb dX9_feed_103 (by decide) ?_
  refine lv_iadd hx hb dX9_feed_104 ?_
  refine W_toi (y := 8) (by decide) ?_
  refine va_put (D := (dC, dI)) (ci := 11) (v := .int 8) (ty := .int) (C := RX9) (T := TX9) (N := 60) hx hb hts iRX9 tyX9 tyX9_ok nmX9 hown hK hP hD hS 0 rfl rfl 10 (by decide) (hts (.fieldLink RX9 132 "RecordBenchModel" "taped" "I") (by decide +kernel)) (fun _ h9 => h9) rfl (by decide +kernel) rfl rfl (by have := lfs_46; omega) dX9_feed_105 (fun H locs hP hD hS => ?_)
  obtain ⟨fs_53, efs_53⟩ : ∃ y, y = fs_46.set 10 (.int 8) := ⟨_, rfl⟩
  rw [← efs_53] at hP hD
  have lfs_53 : fs_53.length = 60 := by rw [efs_53, List.length_set]; exact lfs_46
  have fs_53h9 : fs_53[9]? = some (.ref a9) := by rw [efs_53, List.getElem?_set_ne (by decide)]; exact fs_46h9
  have fs_53h10 : fs_53[10]? = some (.int 8) := by rw [efs_53, List.getElem?_set_self (by have := lfs_46; omega)]
  have hP : va_P (dC, dI) vwCl [(h0, .inr (11, fs_53)), (a9, .inl (c9, 400, .inl f_52))] H := hP
  have hD : va_D A [(h0, .inr (11, fs_53)), (a9, .inl (c9, 400, .inl f_52))] := hD
  refine lv_iinc (v := 8) (lv' := [(6, .int 8), (7, .int p1), (0, .ref h0), (1, .int p0), (2, .int p1), (3, .int p2), (4, .int p3), (5, .int p4)]) hx hb dX9_feed_108 hl (k := 1) rfl (by decide) (by decide) rfl (fun ls hl => ?_)
  refine lv_goto (tgt := 18) hx hb dX9_feed_111 (by decide) ?_
  refine lv_iload hx hb dX9_feed_18 (lv_at hl 0 rfl) ?_
  refine lv_bipush (v := 20) hx hb dX9_feed_20 (by decide) ?_
  refine lv_icmp_ge (tgt := 114) hx hb dX9_feed_22 (by decide) (fun c_54 => absurd c_54 (by decide)) (fun c_54 => ?_)
  refine lv_iload hx hb dX9_feed_25 (lv_at hl 0 rfl) ?_
  refine lv_iconst (v := 4) hx hb dX9_feed_27 (by decide) ?_
  refine lv_icmp_ge (tgt := 35) hx hb dX9_feed_28 (by decide) (fun c_55 => ?_) (fun c_55 => absurd (by decide) c_55)
  refine lv_iload hx hb dX9_feed_35 (lv_at hl 0 rfl) ?_
  refine lv_bipush (v := 8) hx hb dX9_feed_37 (by decide) ?_
  refine lv_icmp_ge (tgt := 46) hx hb dX9_feed_39 (by decide) (fun c_56 => ?_) (fun c_56 => absurd (by decide) c_56)
  refine lv_iload hx hb dX9_feed_46 (lv_at hl 0 rfl) ?_
  refine lv_bipush (v := 12) hx hb dX9_feed_48 (by decide) ?_
  refine lv_icmp_ge (tgt := 57) hx hb dX9_feed_50 (by decide) (fun c_57 => absurd c_57 (by decide)) (fun c_57 => ?_)
  refine lv_iload_n hx hb dX9_feed_53 rfl (lv_at hl 5 rfl) ?_
  refine lv_goto (tgt := 71) hx hb dX9_feed_54 (by decide) ?_
  refine lv_istore (lv' := [(7, .int p2), (6, .int 8), (0, .ref h0), (1, .int p0), (2, .int p1), (3, .int p2), (4, .int p3), (5, .int p4)]) hx hb dX9_feed_71 hl (by decide) rfl (fun ls hl => ?_)
  refine lv_aload_n hx hb dX9_feed_73 rfl (lv_at hl 2 rfl) ?_
  refine va_get (D := (dC, dI)) (ci := 11) (v := .ref a9) (C := RX9) (T := TX9) (N := 60) hx hb hts iRX9 hown hK hP 0 rfl rfl 9 (by decide) (hts (.fieldLink RX9 39 "RecordBenchModel" "tape" "[I") (by decide +kernel)) (fun _ h9 => h9) fs_53h9 dX9_feed_74 ?_
  refine lv_aload_n hx hb dX9_feed_77 rfl (lv_at hl 2 rfl) ?_
  refine va_get (D := (dC, dI)) (ci := 11) (v := .int 8) (C := RX9) (T := TX9) (N := 60) hx hb hts iRX9 hown hK hP 0 rfl rfl 10 (by decide) (hts (.fieldLink RX9 132 "RecordBenchModel" "taped" "I") (by decide +kernel)) (fun _ h9 => h9) fs_53h10 dX9_feed_78 ?_
  refine lv_iload hx hb dX9_feed_81 (lv_at hl 0 rfl) ?_
  refine lv_bipush (v := 8) hx hb dX9_feed_83 (by decide) ?_
  refine lv_iconst (v := 3) hx hb dX9_feed_85 (by decide) ?_
  refine lv_iload hx hb dX9_feed_86 (lv_at hl 1 rfl) ?_
  refine lv_iconst (v := 4) hx hb dX9_feed_88 (by decide) ?_
  refine lv_irem hx hb dX9_feed_89 (by decide) ?_
  refine W_toi (y := 0) (by decide) ?_
  refine lv_isub hx hb dX9_feed_90 ?_
  refine W_toi (y := 3) (by decide) ?_
  refine lv_imul hx hb dX9_feed_91 ?_
  refine W_toi (y := 24) (by decide) ?_
  refine lv_ishr hx hb dX9_feed_92 ?_
  refine lv_topi (fun z_58 ez_58 => ?_)
  refine lv_sipush (v := 255) hx hb dX9_feed_93 (by decide) ?_
  refine lv_iand hx hb dX9_feed_96 ?_
  refine lv_topi (fun z_59 ez_59 => ?_)
  refine va_iast hx hb hK hP hD hS 1 0 rfl rfl (by unfold vp_in; decide) dX9_feed_97 (fun H locs hP hD hS => ?_)
  obtain ⟨f_60, ef_60⟩ : ∃ y : Nat → Int32, y = upd f_52 (8 : Int32).toNatClampNeg z_59 := ⟨_, rfl⟩
  have hP : va_P (dC, dI) vwCl [(h0, .inr (11, fs_53)), (a9, .inl (c9, 400, .inl f_60))] H := by rw [ef_60]; exact hP
  have hD : va_D A [(h0, .inr (11, fs_53)), (a9, .inl (c9, 400, .inl f_60))] := by rw [ef_60]; exact hD
  refine lv_aload_n hx hb dX9_feed_98 rfl (lv_at hl 2 rfl) ?_
  refine lv_dup hx hb dX9_feed_99 rfl ?_
  refine va_get (D := (dC, dI)) (ci := 11) (v := .int 8) (C := RX9) (T := TX9) (N := 60) hx hb hts iRX9 hown hK hP 0 rfl rfl 10 (by decide) (hts (.fieldLink RX9 132 "RecordBenchModel" "taped" "I") (by decide +kernel)) (fun _ h9 => h9) fs_53h10 dX9_feed_100 ?_
  refine lv_iconst (v := 1) hx hb dX9_feed_103 (by decide) ?_
  refine lv_iadd hx hb dX9_feed_104 ?_
  refine W_toi (y := 9) (by decide) ?_
  refine va_put (D := (dC, dI)) (ci := 11) (v := .int 9) (ty := .int) (C := RX9) (T := TX9) (N := 60) hx hb hts iRX9 tyX9 tyX9_ok nmX9 hown hK hP hD hS 0 rfl rfl 10 (by decide) (hts (.fieldLink RX9 132 "RecordBenchModel" "taped" "I") (by decide +kernel)) (fun _ h9 => h9) rfl (by decide +kernel) rfl rfl (by have := lfs_53; omega) dX9_feed_105 (fun H locs hP hD hS => ?_)
  obtain ⟨fs_61, efs_61⟩ : ∃ y, y = fs_53.set 10 (.int 9) := ⟨_, rfl⟩
  rw [← efs_61] at hP hD
  have lfs_61 : fs_61.length = 60 := by rw [efs_61, List.length_set]; exact lfs_53
  have fs_61h9 : fs_61[9]? = some (.ref a9) := by rw [efs_61, List.getElem?_set_ne (by decide)]; exact fs_53h9
  have fs_61h10 : fs_61[10]? = some (.int 9) := by rw [efs_61, List.getElem?_set_self (by have := lfs_53; omega)]
  have hP : va_P (dC, dI) vwCl [(h0, .inr (11, fs_61)), (a9, .inl (c9, 400, .inl f_60))] H := hP
  have hD : va_D A [(h0, .inr (11, fs_61)), (a9, .inl (c9, 400, .inl f_60))] := hD
  refine lv_iinc (v := 9) (lv' := [(6, .int 9), (7, .int p2), (0, .ref h0), (1, .int p0), (2, .int p1), (3, .int p2), (4, .int p3), (5, .int p4)]) hx hb dX9_feed_108 hl (k := 1) rfl (by decide) (by decide) rfl (fun ls hl => ?_)
  refine lv_goto (tgt := 18) hx hb dX9_feed_111 (by decide) ?_
  refine lv_iload hx hb dX9_feed_18 (lv_at hl 0 rfl) ?_
  refine lv_bipush (v := 20) hx hb dX9_feed_20 (by decide) ?_
  refine lv_icmp_ge (tgt := 114) hx hb dX9_feed_22 (by decide) (fun c_62 => absurd c_62 (by decide)) (fun c_62 => ?_)
  refine lv_iload hx hb dX9_feed_25 (lv_at hl 0 rfl) ?_
  refine lv_iconst (v := 4) hx hb dX9_feed_27 (by decide) ?_
  refine lv_icmp_ge (tgt := 35) hx hb dX9_feed_28 (by decide) (fun c_63 => ?_) (fun c_63 => absurd (by decide) c_63)
  refine lv_iload hx hb dX9_feed_35 (lv_at hl 0 rfl) ?_
  refine lv_bipush (v := 8) hx hb dX9_feed_37 (by decide) ?_
  refine lv_icmp_ge (tgt := 46) hx hb dX9_feed_39 (by decide) (fun c_64 => ?_) (fun c_64 => absurd (by decide) c_64)
  refine lv_iload hx hb dX9_feed_46 (lv_at hl 0 rfl) ?_
  refine lv_bipush (v := 12) hx hb dX9_feed_48 (by decide) ?_
  refine lv_icmp_ge (tgt := 57) hx hb dX9_feed_50 (by decide) (fun c_65 => absurd c_65 (by decide)) (fun c_65 => ?_)
  refine lv_iload_n hx hb dX9_feed_53 rfl (lv_at hl 5 rfl) ?_
  refine lv_goto (tgt := 71) hx hb dX9_feed_54 (by decide) ?_
  refine lv_istore (lv' := [(7, .int p2), (6, .int 9), (0, .ref h0), (1, .int p0), (2, .int p1), (3, .int p2), (4, .int p3), (5, .int p4)]) hx hb dX9_feed_71 hl (by decide) rfl (fun ls hl => ?_)
  refine lv_aload_n hx hb dX9_feed_73 rfl (lv_at hl 2 rfl) ?_
  refine va_get (D := (dC, dI)) (ci := 11) (v := .ref a9) (C := RX9) (T := TX9) (N := 60) hx hb hts iRX9 hown hK hP 0 rfl rfl 9 (by decide) (hts (.fieldLink RX9 39 "RecordBenchModel" "tape" "[I") (by decide +kernel)) (fun _ h9 => h9) fs_61h9 dX9_feed_74 ?_
  refine lv_aload_n hx hb dX9_feed_77 rfl (lv_at hl 2 rfl) ?_
  refine va_get (D := (dC, dI)) (ci := 11) (v := .int 9) (C := RX9) (T := TX9) (N := 60) hx hb hts iRX9 hown hK hP 0 rfl rfl 10 (by decide) (hts (.fieldLink RX9 132 "RecordBenchModel" "taped" "I") (by decide +kernel)) (fun _ h9 => h9) fs_61h10 dX9_feed_78 ?_
  refine lv_iload hx hb dX9_feed_81 (lv_at hl 0 rfl) ?_
  refine lv_bipush (v := 8) hx hb dX9_feed_83 (by decide) ?_
  refine lv_iconst (v := 3) hx hb dX9_feed_85 (by decide) ?_
  refine lv_iload hx hb dX9_feed_86 (lv_at hl 1 rfl) ?_
  refine lv_iconst (v := 4) hx hb dX9_feed_88 (by decide) ?_
  refine lv_irem hx hb dX9_feed_89 (by decide) ?_
  refine W_toi (y := 1) (by decide) ?_
  refine lv_isub hx hb dX9_feed_90 ?_
  refine W_toi (y := 2) (by decide) ?_
  refine lv_imul hx hb dX9_feed_91 ?_
  refine W_toi (y := 16) (by decide) ?_
  refine lv_ishr hx hb dX9_feed_92 ?_
  refine lv_topi (fun z_66 ez_66 => ?_)
  refine lv_sipush (v := 255) hx hb dX9_feed_93 (by decide) ?_
  refine lv_iand hx hb dX9_feed_96 ?_
  refine lv_topi (fun z_67 ez_67 => ?_)
  refine va_iast hx hb hK hP hD hS 1 0 rfl rfl (by unfold vp_in; decide) dX9_feed_97 (fun H locs hP hD hS => ?_)
  obtain ⟨f_68, ef_68⟩ : ∃ y : Nat → Int32, y = upd f_60 (9 : Int32).toNatClampNeg z_67 := ⟨_, rfl⟩
  have hP : va_P (dC, dI) vwCl [(h0, .inr (11, fs_61)), (a9, .inl (c9, 400, .inl f_68))] H := by rw [ef_68]; exact hP
  have hD : va_D A [(h0, .inr (11, fs_61)), (a9, .inl (c9, 400, .inl f_68))] := by rw [ef_68]; exact hD
  refine lv_aload_n hx hb dX9_feed_98 rfl (lv_at hl 2 rfl) ?_
  refine lv_dup hx hb dX9_feed_99 rfl ?_
  refine va_get (D := (dC, dI)) (ci := 11) (v := .int 9) (C := RX9) (T := TX9) (N := 60) hx hb hts iRX9 hown hK hP 0 rfl rfl 10 (by decide) (hts (.fieldLink RX9 132 "RecordBenchModel" "taped" "I") (by decide +kernel)) (fun _ h9 => h9) fs_61h10 dX9_feed_100 ?_
  refine lv_iconst (v := 1) hx hb dX9_feed_103 (by decide) ?_
  refine lv_iadd hx hb dX9_feed_104 ?_
  refine W_toi (y := 10) (by decide) ?_
  refine va_put (D := (dC, dI)) (ci := 11) (v := .int 10) (ty := .int) (C := RX9) (T := TX9) (N := 60) hx hb hts iRX9 tyX9 tyX9_ok nmX9 hown hK hP hD hS 0 rfl rfl 10 (by decide) (hts (.fieldLink RX9 132 "RecordBenchModel" "taped" "I") (by decide +kernel)) (fun _ h9 => h9) rfl (by decide +kernel) rfl rfl (by have := lfs_61; omega) dX9_feed_105 (fun H locs hP hD hS => ?_)
  obtain ⟨fs_69, efs_69⟩ : ∃ y, y = fs_61.set 10 (.int 10) := ⟨_, rfl⟩
  rw [← efs_69] at hP hD
  have lfs_69 : fs_69.length = 60 := by rw [efs_69, List.length_set]; exact lfs_61
  have fs_69h9 : fs_69[9]? = some (.ref a9) := by rw [efs_69, List.getElem?_set_ne (by decide)]; exact fs_61h9
  have fs_69h10 : fs_69[10]? = some (.int 10) := by rw [efs_69, List.getElem?_set_self (by have := lfs_61; omega)]
  have hP : va_P (dC, dI) vwCl [(h0, .inr (11, fs_69)), (a9, .inl (c9, 400, .inl f_68))] H := hP
  have hD : va_D A [(h0, .inr (11, fs_69)), (a9, .inl (c9, 400, .inl f_68))] := hD
  refine lv_iinc (v := 10) (lv' := [(6, .int 10), (7, .int p2), (0, .ref h0), (1, .int p0), (2, .int p1), (3, .int p2), (4, .int p3), (5, .int p4)]) hx hb dX9_feed_108 hl (k := 1) rfl (by decide) (by decide) rfl (fun ls hl => ?_)
  refine lv_goto (tgt := 18) hx hb dX9_feed_111 (by decide) ?_
  refine lv_iload hx hb dX9_feed_18 (lv_at hl 0 rfl) ?_
  refine lv_bipush (v := 20) hx hb dX9_feed_20 (by decide) ?_
  refine lv_icmp_ge (tgt := 114) hx hb dX9_feed_22 (by decide) (fun c_70 => absurd c_70 (by decide)) (fun c_70 => ?_)
  refine lv_iload hx hb dX9_feed_25 (lv_at hl 0 rfl) ?_
  refine lv_iconst (v := 4) hx hb dX9_feed_27 (by decide) ?_
  refine lv_icmp_ge (tgt := 35) hx hb dX9_feed_28 (by decide) (fun c_71 => ?_) (fun c_71 => absurd (by decide) c_71)
  refine lv_iload hx hb dX9_feed_35 (lv_at hl 0 rfl) ?_
  refine lv_bipush (v := 8) hx hb dX9_feed_37 (by decide) ?_
  refine lv_icmp_ge (tgt := 46) hx hb dX9_feed_39 (by decide) (fun c_72 => ?_) (fun c_72 => absurd (by decide) c_72)
  refine lv_iload hx hb dX9_feed_46 (lv_at hl 0 rfl) ?_
  refine lv_bipush (v := 12) hx hb dX9_feed_48 (by decide) ?_
  refine lv_icmp_ge (tgt := 57) hx hb dX9_feed_50 (by decide) (fun c_73 => absurd c_73 (by decide)) (fun c_73 => ?_)
  refine lv_iload_n hx hb dX9_feed_53 rfl (lv_at hl 5 rfl) ?_
  refine lv_goto (tgt := 71) hx hb dX9_feed_54 (by decide) ?_
  refine lv_istore (lv' := [(7, .int p2), (6, .int 10), (0, .ref h0), (1, .int p0), (2, .int p1), (3, .int p2), (4, .int p3), (5, .int p4)]) hx hb dX9_feed_71 hl (by decide) rfl (fun ls hl => ?_)
  refine lv_aload_n hx hb dX9_feed_73 rfl (lv_at hl 2 rfl) ?_
  refine va_get (D := (dC, dI)) (ci := 11) (v := .ref a9) (C := RX9) (T := TX9) (N := 60) hx hb hts iRX9 hown hK hP 0 rfl rfl 9 (by decide) (hts (.fieldLink RX9 39 "RecordBenchModel" "tape" "[I") (by decide +kernel)) (fun _ h9 => h9) fs_69h9 dX9_feed_74 ?_
  refine lv_aload_n hx hb dX9_feed_77 rfl (lv_at hl 2 rfl) ?_
  refine va_get (D := (dC, dI)) (ci := 11) (v := .int 10) (C := RX9) (T := TX9) (N := 60) hx hb hts iRX9 hown hK hP 0 rfl rfl 10 (by decide) (hts (.fieldLink RX9 132 "RecordBenchModel" "taped" "I") (by decide +kernel)) (fun _ h9 => h9) fs_69h10 dX9_feed_78 ?_
  refine lv_iload hx hb dX9_feed_81 (lv_at hl 0 rfl) ?_
  refine lv_bipush (v := 8) hx hb dX9_feed_83 (by decide) ?_
  refine lv_iconst (v := 3) hx hb dX9_feed_85 (by decide) ?_
  refine lv_iload hx hb dX9_feed_86 (lv_at hl 1 rfl) ?_
  refine lv_iconst (v := 4) hx hb dX9_feed_88 (by decide) ?_
  refine lv_irem hx hb dX9_feed_89 (by decide) ?_
  refine W_toi (y := 2) (by decide) ?_
  refine lv_isub hx hb dX9_feed_90 ?_
  refine W_toi (y := 1) (by decide) ?_
  refine lv_imul hx hb dX9_feed_91 ?_
  refine W_toi (y := 8) (by decide) ?_
  refine lv_ishr hx hb dX9_feed_92 ?_
  refine lv_topi (fun z_74 ez_74 => ?_)
  refine lv_sipush (v := 255) hx hb dX9_feed_93 (by decide) ?_
  refine lv_iand hx hb dX9_feed_96 ?_
  refine lv_topi (fun z_75 ez_75 => ?_)
  refine va_iast hx hb hK hP hD hS 1 0 rfl rfl (by unfold vp_in; decide) dX9_feed_97 (fun H locs hP hD hS => ?_)
  obtain ⟨f_76, ef_76⟩ : ∃ y : Nat → Int32, y = upd f_68 (10 : Int32).toNatClampNeg z_75 := ⟨_, rfl⟩
  have hP : va_P (dC, dI) vwCl [(h0, .inr (11, fs_69)), (a9, .inl (c9, 400, .inl f_76))] H := by rw [ef_76]; exact hP
  have hD : va_D A [(h0, .inr (11, fs_69)), (a9, .inl (c9, 400, .inl f_76))] := by rw [ef_76]; exact hD
  refine lv_aload_n hx hb dX9_feed_98 rfl (lv_at hl 2 rfl) ?_
  refine lv_dup hx hb dX9_feed_99 rfl ?_
  refine va_get (D := (dC, dI)) (ci := 11) (v := .int 10) (C := RX9) (T := TX9) (N := 60) hx hb hts iRX9 hown hK hP 0 rfl rfl 10 (by decide) (hts (.fieldLink RX9 132 "RecordBenchModel" "taped" "I") (by decide +kernel)) (fun _ h9 => h9) fs_69h10 dX9_feed_100 ?_
  refine lv_iconst (v := 1) hx hb dX9_feed_103 (by decide) ?_
  refine lv_iadd hx hb dX9_feed_104 ?_
  refine W_toi (y := 11) (by decide) ?_
  refine va_put (D := (dC, dI)) (ci := 11) (v := .int 11) (ty := .int) (C := RX9) (T := TX9) (N := 60) hx hb hts iRX9 tyX9 tyX9_ok nmX9 hown hK hP hD hS 0 rfl rfl 10 (by decide) (hts (.fieldLink RX9 132 "RecordBenchModel" "taped" "I") (by decide +kernel)) (fun _ h9 => h9) rfl (by decide +kernel) rfl rfl (by have := lfs_69; omega) dX9_feed_105 (fun H locs hP hD hS => ?_)
  obtain ⟨fs_77, efs_77⟩ : ∃ y, y = fs_69.set 10 (.int 11) := ⟨_, rfl⟩
  rw [← efs_77] at hP hD
  have lfs_77 : fs_77.length = 60 := by rw [efs_77, List.length_set]; exact lfs_69
  have fs_77h9 : fs_77[9]? = some (.ref a9) := by rw [efs_77, List.getElem?_set_ne (by decide)]; exact fs_69h9
  have fs_77h10 : fs_77[10]? = some (.int 11) := by rw [efs_77, List.getElem?_set_self (by have := lfs_69; omega)]
  have hP : va_P (dC, dI) vwCl [(h0, .inr (11, fs_77)), (a9, .inl (c9, 400, .inl f_76))] H := hP
  have hD : va_D A [(h0, .inr (11, fs_77)), (a9, .inl (c9, 400, .inl f_76))] := hD
  refine lv_iinc (v := 11) (lv' := [(6, .int 11), (7, .int p2), (0, .ref h0), (1, .int p0), (2, .int p1), (3, .int p2), (4, .int p3), (5, .int p4)]) hx hb dX9_feed_108 hl (k := 1) rfl (by decide) (by decide) rfl (fun ls hl => ?_)
  refine lv_goto (tgt := 18) hx hb dX9_feed_111 (by decide) ?_
  refine lv_iload hx hb dX9_feed_18 (lv_at hl 0 rfl) ?_
  refine lv_bipush (v := 20) hx hb dX9_feed_20 (by decide) ?_
  refine lv_icmp_ge (tgt := 114) hx hb dX9_feed_22 (by decide) (fun c_78 => absurd c_78 (by decide)) (fun c_78 => ?_)
  refine lv_iload hx hb dX9_feed_25 (lv_at hl 0 rfl) ?_
  refine lv_iconst (v := 4) hx hb dX9_feed_27 (by decide) ?_
  refine lv_icmp_ge (tgt := 35) hx hb dX9_feed_28 (by decide) (fun c_79 => ?_) (fun c_79 => absurd (by decide) c_79)
  refine lv_iload hx hb dX9_feed_35 (lv_at hl 0 rfl) ?_
  refine lv_bipush (v := 8) hx hb dX9_feed_37 (by decide) ?_
  refine lv_icmp_ge (tgt := 46) hx hb dX9_feed_39 (by decide) (fun c_80 => ?_) (fun c_80 => absurd (by decide) c_80)
  refine lv_iload hx hb dX9_feed_46 (lv_at hl 0 rfl) ?_
  refine lv_bipush (v := 12) hx hb dX9_feed_48 (by decide) ?_
  refine lv_icmp_ge (tgt := 57) hx hb dX9_feed_50 (by decide) (fun c_81 => absurd c_81 (by decide)) (fun c_81 => ?_)
  refine lv_iload_n hx hb dX9_feed_53 rfl (lv_at hl 5 rfl) ?_
  refine lv_goto (tgt := 71) hx hb dX9_feed_54 (by decide) ?_
  refine lv_istore (lv' := [(7, .int p2), (6, .int 11), (0, .ref h0), (1, .int p0), (2, .int p1), (3, .int p2), (4, .int p3), (5, .int p4)]) hx hb dX9_feed_71 hl (by decide) rfl (fun ls hl => ?_)
  refine lv_aload_n hx hb dX9_feed_73 rfl (lv_at hl 2 rfl) ?_
  refine va_get (D := (dC, dI)) (ci := 11) (v := .ref a9) (C := RX9) (T := TX9) (N := 60) hx hb hts iRX9 hown hK hP 0 rfl rfl 9 (by decide) (hts (.fieldLink RX9 39 "RecordBenchModel" "tape" "[I") (by decide +kernel)) (fun _ h9 => h9) fs_77h9 dX9_feed_74 ?_
  refine lv_aload_n hx hb dX9_feed_77 rfl (lv_at hl 2 rfl) ?_
  refine va_get (D := (dC, dI)) (ci := 11) (v := .int 11) (C := RX9) (T := TX9) (N := 60) hx hb hts iRX9 hown hK hP 0 rfl rfl 10 (by decide) (hts (.fieldLink RX9 132 "RecordBenchModel" "taped" "I") (by decide +kernel)) (fun _ h9 => h9) fs_77h10 dX9_feed_78 ?_
  refine lv_iload hx hb dX9_feed_81 (lv_at hl 0 rfl) ?_
  refine lv_bipush (v := 8) hx hb dX9_feed_83 (by decide) ?_
  refine lv_iconst (v := 3) hx hb dX9_feed_85 (by decide) ?_
  refine lv_iload hx hb dX9_feed_86 (lv_at hl 1 rfl) ?_
  refine lv_iconst (v := 4) hx hb dX9_feed_88 (by decide) ?_
  refine lv_irem hx hb dX9_feed_89 (by decide) ?_
  refine W_toi (y := 3) (by decide) ?_
  refine lv_isub hx hb dX9_feed_90 ?_
  refine W_toi (y := 0) (by decide) ?_
  refine lv_imul hx hb dX9_feed_91 ?_
  refine W_toi (y := 0) (by decide) ?_
  refine lv_ishr hx hb dX9_feed_92 ?_
  refine lv_topi (fun z_82 ez_82 => ?_)
  refine lv_sipush (v := 255) hx hb dX9_feed_93 (by decide) ?_
  refine lv_iand hx hb dX9_feed_96 ?_
  refine lv_topi (fun z_83 ez_83 => ?_)
  refine va_iast hx hb hK hP hD hS 1 0 rfl rfl (by unfold vp_in; decide) dX9_feed_97 (fun H locs hP hD hS => ?_)
  obtain ⟨f_84, ef_84⟩ : ∃ y : Nat → Int32, y = upd f_76 (11 : Int32).toNatClampNeg z_83 := ⟨_, rfl⟩
  have hP : va_P (dC, dI) vwCl [(h0, .inr (11, fs_77)), (a9, .inl (c9, 400, .inl f_84))] H := by rw [ef_84]; exact hP
  have hD : va_D A [(h0, .inr (11, fs_77)), (a9, .inl (c9, 400, .inl f_84))] := by rw [ef_84]; exact hD
  refine lv_aload_n hx hb dX9_feed_98 rfl (lv_at hl 2 rfl) ?_
  refine lv_dup hx hb dX9_feed_99 rfl ?_
  refine va_get (D := (dC, dI)) (ci := 11) (v := .int 11) (C := RX9) (T := TX9) (N := 60) hx hb hts iRX9 hown hK hP 0 rfl rfl 10 (by decide) (hts (.fieldLink RX9 132 "RecordBenchModel" "taped" "I") (by decide +kernel)) (fun _ h9 => h9) fs_77h10 dX9_feed_100 ?_
  refine lv_iconst (v := 1) hx hb dX9_feed_103 (by decide) ?_
  refine lv_iadd hx hb dX9_feed_104 ?_
  refine W_toi (y := 12) (by decide) ?_
  refine va_put (D := (dC, dI)) (ci := 11) (v := .int 12) (ty := .int) (C := RX9) (T := TX9) (N := 60) hx hb hts iRX9 tyX9 tyX9_ok nmX9 hown hK hP hD hS 0 rfl rfl 10 (by decide) (hts (.fieldLink RX9 132 "RecordBenchModel" "taped" "I") (by decide +kernel)) (fun _ h9 => h9) rfl (by decide +kernel) rfl rfl (by have := lfs_77; omega) dX9_feed_105 (fun H locs hP hD hS => ?_)
  obtain ⟨fs_85, efs_85⟩ : ∃ y, y = fs_77.set 10 (.int 12) := ⟨_, rfl⟩
  rw [← efs_85] at hP hD
  have lfs_85 : fs_85.length = 60 := by rw [efs_85, List.length_set]; exact lfs_77
  have fs_85h9 : fs_85[9]? = some (.ref a9) := by rw [efs_85, List.getElem?_set_ne (by decide)]; exact fs_77h9
  have fs_85h10 : fs_85[10]? = some (.int 12) := by rw [efs_85, List.getElem?_set_self (by have := lfs_77; omega)]
  have hP : va_P (dC, dI) vwCl [(h0, .inr (11, fs_85)), (a9, .inl (c9, 400, .inl f_84))] H := hP
  have hD : va_D A [(h0, .inr (11, fs_85)), (a9, .inl (c9, 400, .inl f_84))] := hD
  refine lv_iinc (v := 12) (lv' := [(6, .int 12), (7, .int p2), (0, .ref h0), (1, .int p0), (2, .int p1), (3, .int p2), (4, .int p3), (5, .int p4)]) hx hb dX9_feed_108 hl (k := 1) rfl (by decide) (by decide) rfl (fun ls hl => ?_)
  refine lv_goto (tgt := 18) hx hb dX9_feed_111 (by decide) ?_
  refine lv_iload hx hb dX9_feed_18 (lv_at hl 0 rfl) ?_
  refine lv_bipush (v := 20) hx hb dX9_feed_20 (by decide) ?_
  refine lv_icmp_ge (tgt := 114) hx hb dX9_feed_22 (by decide) (fun c_86 => absurd c_86 (by decide)) (fun c_86 => ?_)
  refine lv_iload hx hb dX9_feed_25 (lv_at hl 0 rfl) ?_
  refine lv_iconst (v := 4) hx hb dX9_feed_27 (by decide) ?_
  refine lv_icmp_ge (tgt := 35) hx hb dX9_feed_28 (by decide) (fun c_87 => ?_) (fun c_87 => absurd (by decide) c_87)
  refine lv_iload hx hb dX9_feed_35 (lv_at hl 0 rfl) ?_
  refine lv_bipush (v := 8) hx hb dX9_feed_37 (by decide) ?_
  refine lv_icmp_ge (tgt := 46) hx hb dX9_feed_39 (by decide) (fun c_88 => ?_) (fun c_88 => absurd (by decide) c_88)
  refine lv_iload hx hb dX9_feed_46 (lv_at hl 0 rfl) ?_
  refine lv_bipush (v := 12) hx hb dX9_feed_48 (by decide) ?_
  refine lv_icmp_ge (tgt := 57) hx hb dX9_feed_50 (by decide) (fun c_89 => ?_) (fun c_89 => absurd (by decide) c_89)
  refine lv_iload hx hb dX9_feed_57 (lv_at hl 0 rfl) ?_
  refine lv_bipush (v := 16) hx hb dX9_feed_59 (by decide) ?_
  refine lv_icmp_ge (tgt := 69) hx hb dX9_feed_61 (by decide) (fun c_90 => absurd c_90 (by decide)) (fun c_90 => ?_)
  refine lv_iload hx hb dX9_feed_64 (lv_at hl 6 rfl) ?_
  refine lv_goto (tgt := 71) hx hb dX9_feed_66 (by decide) ?_
  refine lv_istore (lv' := [(7, .int p3), (6, .int 12), (0, .ref h0), (1, .int p0), (2, .int p1), (3, .int p2), (4, .int p3), (5, .int p4)]) hx hb dX9_feed_71 hl (by decide) rfl (fun ls hl => ?_)
  refine lv_aload_n hx hb dX9_feed_73 rfl (lv_at hl 2 rfl) ?_
  refine va_get (D := (dC, dI)) (ci := 11) (v := .ref a9) (C := RX9) (T := TX9) (N := 60) hx hb hts iRX9 hown hK hP 0 rfl rfl 9 (by decide) (hts (.fieldLink RX9 39 "RecordBenchModel" "tape" "[I") (by decide +kernel)) (fun _ h9 => h9) fs_85h9 dX9_feed_74 ?_
  refine lv_aload_n hx hb dX9_feed_77 rfl (lv_at hl 2 rfl) ?_
  refine va_get (D := (dC, dI)) (ci := 11) (v := .int 12) (C := RX9) (T := TX9) (N := 60) hx hb hts iRX9 hown hK hP 0 rfl rfl 10 (by decide) (hts (.fieldLink RX9 132 "RecordBenchModel" "taped" "I") (by decide +kernel)) (fun _ h9 => h9) fs_85h10 dX9_feed_78 ?_
  refine lv_iload hx hb dX9_feed_81 (lv_at hl 0 rfl) ?_
  refine lv_bipush (v := 8) hx hb dX9_feed_83 (by decide) ?_
  refine lv_iconst (v := 3) hx hb dX9_feed_85 (by decide) ?_
  refine lv_iload hx hb dX9_feed_86 (lv_at hl 1 rfl) ?_
  refine lv_iconst (v := 4) hx hb dX9_feed_88 (by decide) ?_
  refine lv_irem hx hb dX9_feed_89 (by decide) ?_
  refine W_toi (y := 0) (by decide) ?_
  refine lv_isub hx hb dX9_feed_90 ?_
  refine W_toi (y := 3) (by decide) ?_
  refine lv_imul hx hb dX9_feed_91 ?_
  refine W_toi (y := 24) (by decide) ?_
  refine lv_ishr hx hb dX9_feed_92 ?_
  refine lv_topi (fun z_91 ez_91 => ?_)
  refine lv_sipush (v := 255) hx hb dX9_feed_93 (by decide) ?_
  refine lv_iand hx hb dX9_feed_96 ?_
  refine lv_topi (fun z_92 ez_92 => ?_)
  refine va_iast hx hb hK hP hD hS 1 0 rfl rfl (by unfold vp_in; decide) dX9_feed_97 (fun H locs hP hD hS => ?_)
  obtain ⟨f_93, ef_93⟩ : ∃ y : Nat → Int32, y = upd f_84 (12 : Int32).toNatClampNeg z_92 := ⟨_, rfl⟩
  have hP : va_P (dC, dI) vwCl [(h0, .inr (11, fs_85)), (a9, .inl (c9, 400, .inl f_93))] H := by rw [ef_93]; exact hP
  have hD : va_D A [(h0, .inr (11, fs_85)), (a9, .inl (c9, 400, .inl f_93))] := by rw [ef_93]; exact hD
  refine lv_aload_n hx hb dX9_feed_98 rfl (lv_at hl 2 rfl) ?_
  refine lv_dup hx hb dX9_feed_99 rfl ?_
  refine va_get (D := (dC, dI)) (ci := 11) (v := .int 12) (C := RX9) (T := TX9) (N := 60) hx hb hts iRX9 hown hK hP 0 rfl rfl 10 (by decide) (hts (.fieldLink RX9 132 "RecordBenchModel" "taped" "I") (by decide +kernel)) (fun _ h9 => h9) fs_85h10 dX9_feed_100 ?_
  refine lv_iconst (v := 1) hx hb dX9_feed_103 (by decide) ?_
  refine lv_iadd hx hb dX9_feed_104 ?_
  refine W_toi (y := 13) (by decide) ?_
  refine va_put (D := (dC, dI)) (ci := 11) (v := .int 13) (ty := .int) (C := RX9) (T := TX9) (N := 60) hx hb hts iRX9 tyX9 tyX9_ok nmX9 hown hK hP hD hS 0 rfl rfl 10 (by decide) (hts (.fieldLink RX9 132 "RecordBenchModel" "taped" "I") (by decide +kernel)) (fun _ h9 => h9) rfl (by decide +kernel) rfl rfl (by have := lfs_85; omega) dX9_feed_105 (fun H locs hP hD hS => ?_)
  obtain ⟨fs_94, efs_94⟩ : ∃ y, y = fs_85.set 10 (.int 13) := ⟨_, rfl⟩
  rw [← efs_94] at hP hD
  have lfs_94 : fs_94.length = 60 := by rw [efs_94, List.length_set]; exact lfs_85
  have fs_94h9 : fs_94[9]? = some (.ref a9) := by rw [efs_94, List.getElem?_set_ne (by decide)]; exact fs_85h9
  have fs_94h10 : fs_94[10]? = some (.int 13) := by rw [efs_94, List.getElem?_set_self (by have := lfs_85; omega)]
  have hP : va_P (dC, dI) vwCl [(h0, .inr (11, fs_94)), (a9, .inl (c9, 400, .inl f_93))] H := hP
  have hD : va_D A [(h0, .inr (11, fs_94)), (a9, .inl (c9, 400, .inl f_93))] := hD
  refine lv_iinc (v := 13) (lv' := [(6, .int 13), (7, .int p3), (0, .ref h0), (1, .int p0), (2, .int p1), (3, .int p2), (4, .int p3), (5, .int p4)]) hx hb dX9_feed_108 hl (k := 1) rfl (by decide) (by decide) rfl (fun ls hl => ?_)
  refine lv_goto (tgt := 18) hx hb dX9_feed_111 (by decide) ?_
  refine lv_iload hx hb dX9_feed_18 (lv_at hl 0 rfl) ?_
  refine lv_bipush (v := 20) hx hb dX9_feed_20 (by decide) ?_
  refine lv_icmp_ge (tgt := 114) hx hb dX9_feed_22 (by decide) (fun c_95 => absurd c_95 (by decide)) (fun c_95 => ?_)
  refine lv_iload hx hb dX9_feed_25 (lv_at hl 0 rfl) ?_
  refine lv_iconst (v := 4) hx hb dX9_feed_27 (by decide) ?_
  refine lv_icmp_ge (tgt := 35) hx hb dX9_feed_28 (by decide) (fun c_96 => ?_) (fun c_96 => absurd (by decide) c_96)
  refine lv_iload hx hb dX9_feed_35 (lv_at hl 0 rfl) ?_
  refine lv_bipush (v := 8) hx hb dX9_feed_37 (by decide) ?_
  refine lv_icmp_ge (tgt := 46) hx hb dX9_feed_39 (by decide) (fun c_97 => ?_) (fun c_97 => absurd (by decide) c_97)
  refine lv_iload hx hb dX9_feed_46 (lv_at hl 0 rfl) ?_
  refine lv_bipush (v := 12) hx hb dX9_feed_48 (by decide) ?_
  refine lv_icmp_ge (tgt := 57) hx hb dX9_feed_50 (by decide) (fun c_98 => ?_) (fun c_98 => absurd (by decide) c_98)
  refine lv_iload hx hb dX9_feed_57 (lv_at hl 0 rfl) ?_
  refine lv_bipush (v := 16) hx hb dX9_feed_59 (by decide) ?_
  refine lv_icmp_ge (tgt := 69) hx hb dX9_feed_61 (by decide) (fun c_99 => absurd c_99 (by decide)) (fun c_99 => ?_)
  refine lv_iload hx hb dX9_feed_64 (lv_at hl 6 rfl) ?_
  refine lv_goto (tgt := 71) hx hb dX9_feed_66 (by decide) ?_
  refine lv_istore (lv' := [(7, .int p3), (6, .int 13), (0, .ref h0), (1, .int p0), (2, .int p1), (3, .int p2), (4, .int p3), (5, .int p4)]) hx hb dX9_feed_71 hl (by decide) rfl (fun ls hl => ?_)
  refine lv_aload_n hx hb dX9_feed_73 rfl (lv_at hl 2 rfl) ?_
  refine va_get (D := (dC, dI)) (ci := 11) (v := .ref a9) (C := RX9) (T := TX9) (N := 60) hx hb hts iRX9 hown hK hP 0 rfl rfl 9 (by decide) (hts (.fieldLink RX9 39 "RecordBenchModel" "tape" "[I") (by decide +kernel)) (fun _ h9 => h9) fs_94h9 dX9_feed_74 ?_
  refine lv_aload_n hx hb dX9_feed_77 rfl (lv_at hl 2 rfl) ?_
  refine va_get (D := (dC, dI)) (ci := 11) (v := .int 13) (C := RX9) (T := TX9) (N := 60) hx hb hts iRX9 hown hK hP 0 rfl rfl 10 (by decide) (hts (.fieldLink RX9 132 "RecordBenchModel" "taped" "I") (by decide +kernel)) (fun _ h9 => h9) fs_94h10 dX9_feed_78 ?_
  refine lv_iload hx hb dX9_feed_81 (lv_at hl 0 rfl) ?_
  refine lv_bipush (v := 8) hx hb dX9_feed_83 (by decide) ?_
  refine lv_iconst (v := 3) hx hb dX9_feed_85 (by decide) ?_
  refine lv_iload hx hb dX9_feed_86 (lv_at hl 1 rfl) ?_
  refine lv_iconst (v := 4) hx hb dX9_feed_88 (by decide) ?_
  refine lv_irem hx hb dX9_feed_89 (by decide) ?_
  refine W_toi (y := 1) (by decide) ?_
  refine lv_isub hx hb dX9_feed_90 ?_
  refine W_toi (y := 2) (by decide) ?_
  refine lv_imul hx hb dX9_feed_91 ?_
  refine W_toi (y := 16) (by decide) ?_
  refine lv_ishr hx hb dX9_feed_92 ?_
  refine lv_topi (fun z_100 ez_100 => ?_)
  refine lv_sipush (v := 255) hx hb dX9_feed_93 (by decide) ?_
  refine lv_iand hx hb dX9_feed_96 ?_
  refine lv_topi (fun z_101 ez_101 => ?_)
  refine va_iast hx hb hK hP hD hS 1 0 rfl rfl (by unfold vp_in; decide) dX9_feed_97 (fun H locs hP hD hS => ?_)
  obtain ⟨f_102, ef_102⟩ : ∃ y : Nat → Int32, y = upd f_93 (13 : Int32).toNatClampNeg z_101 := ⟨_, rfl⟩
  have hP : va_P (dC, dI) vwCl [(h0, .inr (11, fs_94)), (a9, .inl (c9, 400, .inl f_102))] H := by rw [ef_102]; exact hP
  have hD : va_D A [(h0, .inr (11, fs_94)), (a9, .inl (c9, 400, .inl f_102))] := by rw [ef_102]; exact hD
  refine lv_aload_n hx hb dX9_feed_98 rfl (lv_at hl 2 rfl) ?_
  refine lv_dup hx hb dX9_feed_99 rfl ?_
  refine va_get (D := (dC, dI)) (ci := 11) (v := .int 13) (C := RX9) (T := TX9) (N := 60) hx hb hts iRX9 hown hK hP 0 rfl rfl 10 (by decide) (hts (.fieldLink RX9 132 "RecordBenchModel" "taped" "I") (by decide +kernel)) (fun _ h9 => h9) fs_94h10 dX9_feed_100 ?_
  refine lv_iconst (v := 1) hx hb dX9_feed_103 (by decide) ?_
  refine lv_iadd hx hb dX9_feed_104 ?_
  refine W_toi (y := 14) (by decide) ?_
  refine va_put (D := (dC, dI)) (ci := 11) (v := .int 14) (ty := .int) (C := RX9) (T := TX9) (N := 60) hx hb hts iRX9 tyX9 tyX9_ok nmX9 hown hK hP hD hS 0 rfl rfl 10 (by decide) (hts (.fieldLink RX9 132 "RecordBenchModel" "taped" "I") (by decide +kernel)) (fun _ h9 => h9) rfl (by decide +kernel) rfl rfl (by have := lfs_94; omega) dX9_feed_105 (fun H locs hP hD hS => ?_)
  obtain ⟨fs_103, efs_103⟩ : ∃ y, y = fs_94.set 10 (.int 14) := ⟨_, rfl⟩
  rw [← efs_103] at hP hD
  have lfs_103 : fs_103.length = 60 := by rw [efs_103, List.length_set]; exact lfs_94
  have fs_103h9 : fs_103[9]? = some (.ref a9) := by rw [efs_103, List.getElem?_set_ne (by decide)]; exact fs_94h9
  have fs_103h10 : fs_103[10]? = some (.int 14) := by rw [efs_103, List.getElem?_set_self (by have := lfs_94; omega)]
  have hP : va_P (dC, dI) vwCl [(h0, .inr (11, fs_103)), (a9, .inl (c9, 400, .inl f_102))] H := hP
  have hD : va_D A [(h0, .inr (11, fs_103)), (a9, .inl (c9, 400, .inl f_102))] := hD
  refine lv_iinc (v := 14) (lv' := [(6, .int 14), (7, .int p3), (0, .ref h0), (1, .int p0), (2, .int p1), (3, .int p2), (4, .int p3), (5, .int p4)]) hx hb dX9_feed_108 hl (k := 1) rfl (by decide) (by decide) rfl (fun ls hl => ?_)
  refine lv_goto (tgt := 18) hx hb dX9_feed_111 (by decide) ?_
  refine lv_iload hx hb dX9_feed_18 (lv_at hl 0 rfl) ?_
  refine lv_bipush (v := 20) hx hb dX9_feed_20 (by decide) ?_
  refine lv_icmp_ge (tgt := 114) hx hb dX9_feed_22 (by decide) (fun c_104 => absurd c_104 (by decide)) (fun c_104 => ?_)
  refine lv_iload hx hb dX9_feed_25 (lv_at hl 0 rfl) ?_
  refine lv_iconst (v := 4) hx hb dX9_feed_27 (by decide) ?_
  refine lv_icmp_ge (tgt := 35) hx hb dX9_feed_28 (by decide) (fun c_105 => ?_) (fun c_105 => absurd (by decide) c_105)
  refine lv_iload hx hb dX9_feed_35 (lv_at hl 0 rfl) ?_
  refine lv_bipush (v := 8) hx hb dX9_feed_37 (by decide) ?_
  refine lv_icmp_ge (tgt := 46) hx hb dX9_feed_39 (by decide) (fun c_106 => ?_) (fun c_106 => absurd (by decide) c_106)
  refine lv_iload hx hb dX9_feed_46 (lv_at hl 0 rfl) ?_
  refine lv_bipush (v := 12) hx hb dX9_feed_48 (by decide) ?_
  refine lv_icmp_ge (tgt := 57) hx hb dX9_feed_50 (by decide) (fun c_107 => ?_) (fun c_107 => absurd (by decide) c_107)
  refine lv_iload hx hb dX9_feed_57 (lv_at hl 0 rfl) ?_
  refine lv_bipush (v := 16) hx hb dX9_feed_59 (by decide) ?_
  refine lv_icmp_ge (tgt := 69) hx hb dX9_feed_61 (by decide) (fun c_108 => absurd c_108 (by decide)) (fun c_108 => ?_)
  refine lv_iload hx hb dX9_feed_64 (lv_at hl 6 rfl) ?_
  refine lv_goto (tgt := 71) hx hb dX9_feed_66 (by decide) ?_
  refine lv_istore (lv' := [(7, .int p3), (6, .int 14), (0, .ref h0), (1, .int p0), (2, .int p1), (3, .int p2), (4, .int p3), (5, .int p4)]) hx hb dX9_feed_71 hl (by decide) rfl (fun ls hl => ?_)
  refine lv_aload_n hx hb dX9_feed_73 rfl (lv_at hl 2 rfl) ?_
  refine va_get (D := (dC, dI)) (ci := 11) (v := .ref a9) (C := RX9) (T := TX9) (N := 60) hx hb hts iRX9 hown hK hP 0 rfl rfl 9 (by decide) (hts (.fieldLink RX9 39 "RecordBenchModel" "tape" "[I") (by decide +kernel)) (fun _ h9 => h9) fs_103h9 dX9_feed_74 ?_
  refine lv_aload_n hx hb dX9_feed_77 rfl (lv_at hl 2 rfl) ?_
  refine va_get (D := (dC, dI)) (ci := 11) (v := .int 14) (C := RX9) (T := TX9) (N := 60) hx hb hts iRX9 hown hK hP 0 rfl rfl 10 (by decide) (hts (.fieldLink RX9 132 "RecordBenchModel" "taped" "I") (by decide +kernel)) (fun _ h9 => h9) fs_103h10 dX9_feed_78 ?_
  refine lv_iload hx hb dX9_feed_81 (lv_at hl 0 rfl) ?_
  refine lv_bipush (v := 8) hx hb dX9_feed_83 (by decide) ?_
  refine lv_iconst (v := 3) hx hb dX9_feed_85 (by decide) ?_
  refine lv_iload hx hb dX9_feed_86 (lv_at hl 1 rfl) ?_
  refine lv_iconst (v := 4) hx hb dX9_feed_88 (by decide) ?_
  refine lv_irem hx hb dX9_feed_89 (by decide) ?_
  refine W_toi (y := 2) (by decide) ?_
  refine lv_isub hx hb dX9_feed_90 ?_
  refine W_toi (y := 1) (by decide) ?_
  refine lv_imul hx hb dX9_feed_91 ?_
  refine W_toi (y := 8) (by decide) ?_
  refine lv_ishr hx hb dX9_feed_92 ?_
  refine lv_topi (fun z_109 ez_109 => ?_)
  refine lv_sipush (v := 255) hx hb dX9_feed_93 (by decide) ?_
  refine lv_iand hx hb dX9_feed_96 ?_
  refine lv_topi (fun z_110 ez_110 => ?_)
  refine va_iast hx hb hK hP hD hS 1 0 rfl rfl (by unfold vp_in; decide) dX9_feed_97 (fun H locs hP hD hS => ?_)
  obtain ⟨f_111, ef_111⟩ : ∃ y : Nat → Int32, y = upd f_102 (14 : Int32).toNatClampNeg z_110 := ⟨_, rfl⟩
  have hP : va_P (dC, dI) vwCl [(h0, .inr (11, fs_103)), (a9, .inl (c9, 400, .inl f_111))] H := by rw [ef_111]; exact hP
  have hD : va_D A [(h0, .inr (11, fs_103)), (a9, .inl (c9, 400, .inl f_111))] := by rw [ef_111]; exact hD
  refine lv_aload_n hx hb dX9_feed_98 rfl (lv_at hl 2 rfl) ?_
  refine lv_dup hx hb dX9_feed_99 rfl ?_
  refine va_get (D := (dC, dI)) (ci := 11) (v := .int 14) (C := RX9) (T := TX9) (N := 60) hx hb hts iRX9 hown hK hP 0 rfl rfl 10 (by decide) (hts (.fieldLink RX9 132 "RecordBenchModel" "taped" "I") (by decide +kernel)) (fun _ h9 => h9) fs_103h10 dX9_feed_100 ?_
  refine lv_iconst (v := 1) hx hb dX9_feed_103 (by decide) ?_
  refine lv_iadd hx hb dX9_feed_104 ?_
  refine W_toi (y := 15) (by decide) ?_
  refine va_put (D := (dC, dI)) (ci := 11) (v := .int 15) (ty := .int) (C := RX9) (T := TX9) (N := 60) hx hb hts iRX9 tyX9 tyX9_ok nmX9 hown hK hP hD hS 0 rfl rfl 10 (by decide) (hts (.fieldLink RX9 132 "RecordBenchModel" "taped" "I") (by decide +kernel)) (fun _ h9 => h9) rfl (by decide +kernel) rfl rfl (by have := lfs_103; omega) dX9_feed_105 (fun H locs hP hD hS => ?_)
  obtain ⟨fs_112, efs_112⟩ : ∃ y, y = fs_103.set 10 (.int 15) := ⟨_, rfl⟩
  rw [← efs_112] at hP hD
  have lfs_112 : fs_112.length = 60 := by rw [efs_112, List.length_set]; exact lfs_103
  have fs_112h9 : fs_112[9]? = some (.ref a9) := by rw [efs_112, List.getElem?_set_ne (by decide)]; exact fs_103h9
  have fs_112h10 : fs_112[10]? = some (.int 15) := by rw [efs_112, List.getElem?_set_self (by have := lfs_103; omega)]
  have hP : va_P (dC, dI) vwCl [(h0, .inr (11, fs_112)), (a9, .inl (c9, 400, .inl f_111))] H := hP
  have hD : va_D A [(h0, .inr (11, fs_112)), (a9, .inl (c9, 400, .inl f_111))] := hD
  refine lv_iinc (v := 15) (lv' := [(6, .int 15), (7, .int p3), (0, .ref h0), (1, .int p0), (2, .int p1), (3, .int p2), (4, .int p3), (5, .int p4)]) hx hb dX9_feed_108 hl (k := 1) rfl (by decide) (by decide) rfl (fun ls hl => ?_)
  refine lv_goto (tgt := 18) hx hb dX9_feed_111 (by decide) ?_
  refine lv_iload hx hb dX9_feed_18 (lv_at hl 0 rfl) ?_
  refine lv_bipush (v := 20) hx hb dX9_feed_20 (by decide) ?_
  refine lv_icmp_ge (tgt := 114) hx hb dX9_feed_22 (by decide) (fun c_113 => absurd c_113 (by decide)) (fun c_113 => ?_)
  refine lv_iload hx hb dX9_feed_25 (lv_at hl 0 rfl) ?_
  refine lv_iconst (v := 4) hx hb dX9_feed_27 (by decide) ?_
  refine lv_icmp_ge (tgt := 35) hx hb dX9_feed_28 (by decide) (fun c_114 => ?_) (fun c_114 => absurd (by decide) c_114)
  refine lv_iload hx hb dX9_feed_35 (lv_at hl 0 rfl) ?_
  refine lv_bipush (v := 8) hx hb dX9_feed_37 (by decide) ?_
  refine lv_icmp_ge (tgt := 46) hx hb dX9_feed_39 (by decide) (fun c_115 => ?_) (fun c_115 => absurd (by decide) c_115)
  refine lv_iload hx hb dX9_feed_46 (lv_at hl 0 rfl) ?_
  refine lv_bipush (v := 12) hx hb dX9_feed_48 (by decide) ?_
  refine lv_icmp_ge (tgt := 57) hx hb dX9_feed_50 (by decide) (fun c_116 => ?_) (fun c_116 => absurd (by decide) c_116)
  refine lv_iload hx hb dX9_feed_57 (lv_at hl 0 rfl) ?_
  refine lv_bipush (v := 16) hx hb dX9_feed_59 (by decide) ?_
  refine lv_icmp_ge (tgt := 69) hx hb dX9_feed_61 (by decide) (fun c_117 => absurd c_117 (by decide)) (fun c_117 => ?_)
  refine lv_iload hx hb dX9_feed_64 (lv_at hl 6 rfl) ?_
  refine lv_goto (tgt := 71) hx hb dX9_feed_66 (by decide) ?_
  refine lv_istore (lv' := [(7, .int p3), (6, .int 15), (0, .ref h0), (1, .int p0), (2, .int p1), (3, .int p2), (4, .int p3), (5, .int p4)]) hx hb dX9_feed_71 hl (by decide) rfl (fun ls hl => ?_)
  refine lv_aload_n hx hb dX9_feed_73 rfl (lv_at hl 2 rfl) ?_
  refine va_get (D := (dC, dI)) (ci := 11) (v := .ref a9) (C := RX9) (T := TX9) (N := 60) hx hb hts iRX9 hown hK hP 0 rfl rfl 9 (by decide) (hts (.fieldLink RX9 39 "RecordBenchModel" "tape" "[I") (by decide +kernel)) (fun _ h9 => h9) fs_112h9 dX9_feed_74 ?_
  refine lv_aload_n hx hb dX9_feed_77 rfl (lv_at hl 2 rfl) ?_
  refine va_get (D := (dC, dI)) (ci := 11) (v := .int 15) (C := RX9) (T := TX9) (N := 60) hx hb hts iRX9 hown hK hP 0 rfl rfl 10 (by decide) (hts (.fieldLink RX9 132 "RecordBenchModel" "taped" "I") (by decide +kernel)) (fun _ h9 => h9) fs_112h10 dX9_feed_78 ?_
  refine lv_iload hx hb dX9_feed_81 (lv_at hl 0 rfl) ?_
  refine lv_bipush (v := 8) hx hb dX9_feed_83 (by decide) ?_
  refine lv_iconst (v := 3) hx hb dX9_feed_85 (by decide) ?_
  refine lv_iload hx hb dX9_feed_86 (lv_at hl 1 rfl) ?_
  refine lv_iconst (v := 4) hx hb dX9_feed_88 (by decide) ?_
  refine lv_irem hx hb dX9_feed_89 (by decide) ?_
  refine W_toi (y := 3) (by decide) ?_
  refine lv_isub hx hb dX9_feed_90 ?_
  refine W_toi (y := 0) (by decide) ?_
  refine lv_imul hx hb dX9_feed_91 ?_
  refine W_toi (y := 0) (by decide) ?_
  refine lv_ishr hx hb dX9_feed_92 ?_
  refine lv_topi (fun z_118 ez_118 => ?_)
  refine lv_sipush (v := 255) hx hb dX9_feed_93 (by decide) ?_
  refine lv_iand hx hb dX9_feed_96 ?_
  refine lv_topi (fun z_119 ez_119 => ?_)
  refine va_iast hx hb hK hP hD hS 1 0 rfl rfl (by unfold vp_in; decide) dX9_feed_97 (fun H locs hP hD hS => ?_)
  obtain ⟨f_120, ef_120⟩ : ∃ y : Nat → Int32, y = upd f_111 (15 : Int32).toNatClampNeg z_119 := ⟨_, rfl⟩
  have hP : va_P (dC, dI) vwCl [(h0, .inr (11, fs_112)), (a9, .inl (c9, 400, .inl f_120))] H := by rw [ef_120]; exact hP
  have hD : va_D A [(h0, .inr (11, fs_112)), (a9, .inl (c9, 400, .inl f_120))] := by rw [ef_120]; exact hD
  refine lv_aload_n hx hb dX9_feed_98 rfl (lv_at hl 2 rfl) ?_
  refine lv_dup hx hb dX9_feed_99 rfl ?_
  refine va_get (D := (dC, dI)) (ci := 11) (v := .int 15) (C := RX9) (T := TX9) (N := 60) hx hb hts iRX9 hown hK hP 0 rfl rfl 10 (by decide) (hts (.fieldLink RX9 132 "RecordBenchModel" "taped" "I") (by decide +kernel)) (fun _ h9 => h9) fs_112h10 dX9_feed_100 ?_
  refine lv_iconst (v := 1) hx hb dX9_feed_103 (by decide) ?_
  refine lv_iadd hx hb dX9_feed_104 ?_
  refine W_toi (y := 16) (by decide) ?_
  refine va_put (D := (dC, dI)) (ci := 11) (v := .int 16) (ty := .int) (C := RX9) (T := TX9) (N := 60) hx hb hts iRX9 tyX9 tyX9_ok nmX9 hown hK hP hD hS 0 rfl rfl 10 (by decide) (hts (.fieldLink RX9 132 "RecordBenchModel" "taped" "I") (by decide +kernel)) (fun _ h9 => h9) rfl (by decide +kernel) rfl rfl (by have := lfs_112; omega) dX9_feed_105 (fun H locs hP hD hS => ?_)
  obtain ⟨fs_121, efs_121⟩ : ∃ y, y = fs_112.set 10 (.int 16) := ⟨_, rfl⟩
  rw [← efs_121] at hP hD
  have lfs_121 : fs_121.length = 60 := by rw [efs_121, List.length_set]; exact lfs_112
  have fs_121h9 : fs_121[9]? = some (.ref a9) := by rw [efs_121, List.getElem?_set_ne (by decide)]; exact fs_112h9
  have fs_121h10 : fs_121[10]? = some (.int 16) := by rw [efs_121, List.getElem?_set_self (by have := lfs_112; omega)]
  have hP : va_P (dC, dI) vwCl [(h0, .inr (11, fs_121)), (a9, .inl (c9, 400, .inl f_120))] H := hP
  have hD : va_D A [(h0, .inr (11, fs_121)), (a9, .inl (c9, 400, .inl f_120))] := hD
  refine lv_iinc (v := 16) (lv' := [(6, .int 16), (7, .int p3), (0, .ref h0), (1, .int p0), (2, .int p1), (3, .int p2), (4, .int p3), (5, .int p4)]) hx hb dX9_feed_108 hl (k := 1) rfl (by decide) (by decide) rfl (fun ls hl => ?_)
  refine lv_goto (tgt := 18) hx hb dX9_feed_111 (by decide) ?_
  refine lv_iload hx hb dX9_feed_18 (lv_at hl 0 rfl) ?_
  refine lv_bipush (v := 20) hx hb dX9_feed_20 (by decide) ?_
  refine lv_icmp_ge (tgt := 114) hx hb dX9_feed_22 (by decide) (fun c_122 => absurd c_122 (by decide)) (fun c_122 => ?_)
  refine lv_iload hx hb dX9_feed_25 (lv_at hl 0 rfl) ?_
  refine lv_iconst (v := 4) hx hb dX9_feed_27 (by decide) ?_
  refine lv_icmp_ge (tgt := 35) hx hb dX9_feed_28 (by decide) (fun c_123 => ?_) (fun c_123 => absurd (by decide) c_123)
  refine lv_iload hx hb dX9_feed_35 (lv_at hl 0 rfl) ?_
  refine lv_bipush (v := 8) hx hb dX9_feed_37 (by decide) ?_
  refine lv_icmp_ge (tgt := 46) hx hb dX9_feed_39 (by decide) (fun c_124 => ?_) (fun c_124 => absurd (by decide) c_124)
  refine lv_iload hx hb dX9_feed_46 (lv_at hl 0 rfl) ?_
  refine lv_bipush (v := 12) hx hb dX9_feed_48 (by decide) ?_
  refine lv_icmp_ge (tgt := 57) hx hb dX9_feed_50 (by decide) (fun c_125 => ?_) (fun c_125 => absurd (by decide) c_125)
  refine lv_iload hx hb dX9_feed_57 (lv_at hl 0 rfl) ?_
  refine lv_bipush (v := 16) hx hb dX9_feed_59 (by decide) ?_
  refine lv_icmp_ge (tgt := 69) hx hb dX9_feed_61 (by decide) (fun c_126 => ?_) (fun c_126 => absurd (by decide) c_126)
  refine lv_iload hx hb dX9_feed_69 (lv_at hl 7 rfl) ?_
  refine lv_istore (lv' := [(7, .int p4), (6, .int 16), (0, .ref h0), (1, .int p0), (2, .int p1), (3, .int p2), (4, .int p3), (5, .int p4)]) hx hb dX9_feed_71 hl (by decide) rfl (fun ls hl => ?_)
  refine lv_aload_n hx hb dX9_feed_73 rfl (lv_at hl 2 rfl) ?_
  refine va_get (D := (dC, dI)) (ci := 11) (v := .ref a9) (C := RX9) (T := TX9) (N := 60) hx hb hts iRX9 hown hK hP 0 rfl rfl 9 (by decide) (hts (.fieldLink RX9 39 "RecordBenchModel" "tape" "[I") (by decide +kernel)) (fun _ h9 => h9) fs_121h9 dX9_feed_74 ?_
  refine lv_aload_n hx hb dX9_feed_77 rfl (lv_at hl 2 rfl) ?_
  refine va_get (D := (dC, dI)) (ci := 11) (v := .int 16) (C := RX9) (T := TX9) (N := 60) hx hb hts iRX9 hown hK hP 0 rfl rfl 10 (by decide) (hts (.fieldLink RX9 132 "RecordBenchModel" "taped" "I") (by decide +kernel)) (fun _ h9 => h9) fs_121h10 dX9_feed_78 ?_
  refine lv_iload hx hb dX9_feed_81 (lv_at hl 0 rfl) ?_
  refine lv_bipush (v := 8) hx hb dX9_feed_83 (by decide) ?_
  refine lv_iconst (v := 3) hx hb dX9_feed_85 (by decide) ?_
  refine lv_iload hx hb dX9_feed_86 (lv_at hl 1 rfl) ?_
  refine lv_iconst (v := 4) hx hb dX9_feed_88 (by decide) ?_
  refine lv_irem hx hb dX9_feed_89 (by decide) ?_
  refine W_toi (y := 0) (by decide) ?_
  refine lv_isub hx hb dX9_feed_90 ?_
  refine W_toi (y := 3) (by decide) ?_
  refine lv_imul hx hb dX9_feed_91 ?_
  refine W_toi (y := 24) (by decide) ?_
  refine lv_ishr hx hb dX9_feed_92 ?_
  refine lv_topi (fun z_127 ez_127 => ?_)
  refine lv_sipush (v := 255) hx hb dX9_feed_93 (by decide) ?_
  refine lv_iand hx hb dX9_feed_96 ?_
  refine lv_topi (fun z_128 ez_128 => ?_)
  refine va_iast hx hb hK hP hD hS 1 0 rfl rfl (by unfold vp_in; decide) dX9_feed_97 (fun H locs hP hD hS => ?_)
  obtain ⟨f_129, ef_129⟩ : ∃ y : Nat → Int32, y = upd f_120 (16 : Int32).toNatClampNeg z_128 := ⟨_, rfl⟩
  have hP : va_P (dC, dI) vwCl [(h0, .inr (11, fs_121)), (a9, .inl (c9, 400, .inl f_129))] H := by rw [ef_129]; exact hP
  have hD : va_D A [(h0, .inr (11, fs_121)), (a9, .inl (c9, 400, .inl f_129))] := by rw [ef_129]; exact hD
  refine lv_aload_n hx hb dX9_feed_98 rfl (lv_at hl 2 rfl) ?_
  refine lv_dup hx hb dX9_feed_99 rfl ?_
  refine va_get (D := (dC, dI)) (ci := 11) (v := .int 16) (C := RX9) (T := TX9) (N := 60) hx hb hts iRX9 hown hK hP 0 rfl rfl 10 (by decide) (hts (.fieldLink RX9 132 "RecordBenchModel" "taped" "I") (by decide +kernel)) (fun _ h9 => h9) fs_121h10 dX9_feed_100 ?_
  refine lv_iconst (v := 1) hx hb dX9_feed_103 (by decide) ?_
  refine lv_iadd hx hb dX9_feed_104 ?_
  refine W_toi (y := 17) (by decide) ?_
  refine va_put (D := (dC, dI)) (ci := 11) (v := .int 17) (ty := .int) (C := RX9) (T := TX9) (N := 60) hx hb hts iRX9 tyX9 tyX9_ok nmX9 hown hK hP hD hS 0 rfl rfl 10 (by decide) (hts (.fieldLink RX9 132 "RecordBenchModel" "taped" "I") (by decide +kernel)) (fun _ h9 => h9) rfl (by decide +kernel) rfl rfl (by have := lfs_121; omega) dX9_feed_105 (fun H locs hP hD hS => ?_)
  obtain ⟨fs_130, efs_130⟩ : ∃ y, y = fs_121.set 10 (.int 17) := ⟨_, rfl⟩
  rw [← efs_130] at hP hD
  have lfs_130 : fs_130.length = 60 := by rw [efs_130, List.length_set]; exact lfs_121
  have fs_130h9 : fs_130[9]? = some (.ref a9) := by rw [efs_130, List.getElem?_set_ne (by decide)]; exact fs_121h9
  have fs_130h10 : fs_130[10]? = some (.int 17) := by rw [efs_130, List.getElem?_set_self (by have := lfs_121; omega)]
  have hP : va_P (dC, dI) vwCl [(h0, .inr (11, fs_130)), (a9, .inl (c9, 400, .inl f_129))] H := hP
  have hD : va_D A [(h0, .inr (11, fs_130)), (a9, .inl (c9, 400, .inl f_129))] := hD
  refine lv_iinc (v := 17) (lv' := [(6, .int 17), (7, .int p4), (0, .ref h0), (1, .int p0), (2, .int p1), (3, .int p2), (4, .int p3), (5, .int p4)]) hx hb dX9_feed_108 hl (k := 1) rfl (by decide) (by decide) rfl (fun ls hl => ?_)
  refine lv_goto (tgt := 18) hx hb dX9_feed_111 (by decide) ?_
  refine lv_iload hx hb dX9_feed_18 (lv_at hl 0 rfl) ?_
  refine lv_bipush (v := 20) hx hb dX9_feed_20 (by decide) ?_
  refine lv_icmp_ge (tgt := 114) hx hb dX9_feed_22 (by decide) (fun c_131 => absurd c_131 (by decide)) (fun c_131 => ?_)
  refine lv_iload hx hb dX9_feed_25 (lv_at hl 0 rfl) ?_
  refine lv_iconst (v := 4) hx hb dX9_feed_27 (by decide) ?_
  refine lv_icmp_ge (tgt := 35) hx hb dX9_feed_28 (by decide) (fun c_132 => ?_) (fun c_132 => absurd (by decide) c_132)
  refine lv_iload hx hb dX9_feed_35 (lv_at hl 0 rfl) ?_
  refine lv_bipush (v := 8) hx hb dX9_feed_37 (by decide) ?_
  refine lv_icmp_ge (tgt := 46) hx hb dX9_feed_39 (by decide) (fun c_133 => ?_) (fun c_133 => absurd (by decide) c_133)
  refine lv_iload hx hb dX9_feed_46 (lv_at hl 0 rfl) ?_
  refine lv_bipush (v := 12) hx hb dX9_feed_48 (by decide) ?_
  refine lv_icmp_ge (tgt := 57) hx hb dX9_feed_50 (by decide) (fun c_134 => ?_) (fun c_134 => absurd (by decide) c_134)
  refine lv_iload hx hb dX9_feed_57 (lv_at hl 0 rfl) ?_
  refine lv_bipush (v := 16) hx hb dX9_feed_59 (by decide) ?_
  refine lv_icmp_ge (tgt := 69) hx hb dX9_feed_61 (by decide) (fun c_135 => ?_) (fun c_135 => absurd (by decide) c_135)
  refine lv_iload hx hb dX9_feed_69 (lv_at hl 7 rfl) ?_
  refine lv_istore (lv' := [(7, .int p4), (6, .int 17), (0, .ref h0), (1, .int p0), (2, .int p1), (3, .int p2), (4, .int p3), (5, .int p4)]) hx hb dX9_feed_71 hl (by decide) rfl (fun ls hl => ?_)
  refine lv_aload_n hx hb dX9_feed_73 rfl (lv_at hl 2 rfl) ?_
  refine va_get (D := (dC, dI)) (ci := 11) (v := .ref a9) (C := RX9) (T := TX9) (N := 60) hx hb hts iRX9 hown hK hP 0 rfl rfl 9 (by decide) (hts (.fieldLink RX9 39 "RecordBenchModel" "tape" "[I") (by decide +kernel)) (fun _ h9 => h9) fs_130h9 dX9_feed_74 ?_
  refine lv_aload_n hx hb dX9_feed_77 rfl (lv_at hl 2 rfl) ?_
  refine va_get (D := (dC, dI)) (ci := 11) (v := .int 17) (C := RX9) (T := TX9) (N := 60) hx hb hts iRX9 hown hK hP 0 rfl rfl 10 (by decide) (hts (.fieldLink RX9 132 "RecordBenchModel" "taped" "I") (by decide +kernel)) (fun _ h9 => h9) fs_130h10 dX9_feed_78 ?_
  refine lv_iload hx hb dX9_feed_81 (lv_at hl 0 rfl) ?_
  refine lv_bipush (v := 8) hx hb dX9_feed_83 (by decide) ?_
  refine lv_iconst (v := 3) hx hb dX9_feed_85 (by decide) ?_
  refine lv_iload hx hb dX9_feed_86 (lv_at hl 1 rfl) ?_
  refine lv_iconst (v := 4) hx hb dX9_feed_88 (by decide) ?_
  refine lv_irem hx hb dX9_feed_89 (by decide) ?_
  refine W_toi (y := 1) (by decide) ?_
  refine lv_isub hx hb dX9_feed_90 ?_
  refine W_toi (y := 2) (by decide) ?_
  refine lv_imul hx hb dX9_feed_91 ?_
  refine W_toi (y := 16) (by decide) ?_
  refine lv_ishr hx hb dX9_feed_92 ?_
  refine lv_topi (fun z_136 ez_136 => ?_)
  refine lv_sipush (v := 255) hx hb dX9_feed_93 (by decide) ?_
  refine lv_iand hx hb dX9_feed_96 ?_
  refine lv_topi (fun z_137 ez_137 => ?_)
  refine va_iast hx hb hK hP hD hS 1 0 rfl rfl (by unfold vp_in; decide) dX9_feed_97 (fun H locs hP hD hS => ?_)
  obtain ⟨f_138, ef_138⟩ : ∃ y : Nat → Int32, y = upd f_129 (17 : Int32).toNatClampNeg z_137 := ⟨_, rfl⟩
  have hP : va_P (dC, dI) vwCl [(h0, .inr (11, fs_130)), (a9, .inl (c9, 400, .inl f_138))] H := by rw [ef_138]; exact hP
  have hD : va_D A [(h0, .inr (11, fs_130)), (a9, .inl (c9, 400, .inl f_138))] := by rw [ef_138]; exact hD
  refine lv_aload_n hx hb dX9_feed_98 rfl (lv_at hl 2 rfl) ?_
  refine lv_dup hx hb dX9_feed_99 rfl ?_
  refine va_get (D := (dC, dI)) (ci := 11) (v := .int 17) (C := RX9) (T := TX9) (N := 60) hx hb hts iRX9 hown hK hP 0 rfl rfl 10 (by decide) (hts (.fieldLink RX9 132 "RecordBenchModel" "taped" "I") (by decide +kernel)) (fun _ h9 => h9) fs_130h10 dX9_feed_100 ?_
  refine lv_iconst (v := 1) hx hb dX9_feed_103 (by decide) ?_
  refine lv_iadd hx hb dX9_feed_104 ?_
  refine W_toi (y := 18) (by decide) ?_
  refine va_put (D := (dC, dI)) (ci := 11) (v := .int 18) (ty := .int) (C := RX9) (T := TX9) (N := 60) hx hb hts iRX9 tyX9 tyX9_ok nmX9 hown hK hP hD hS 0 rfl rfl 10 (by decide) (hts (.fieldLink RX9 132 "RecordBenchModel" "taped" "I") (by decide +kernel)) (fun _ h9 => h9) rfl (by decide +kernel) rfl rfl (by have := lfs_130; omega) dX9_feed_105 (fun H locs hP hD hS => ?_)
  obtain ⟨fs_139, efs_139⟩ : ∃ y, y = fs_130.set 10 (.int 18) := ⟨_, rfl⟩
  rw [← efs_139] at hP hD
  have lfs_139 : fs_139.length = 60 := by rw [efs_139, List.length_set]; exact lfs_130
  have fs_139h9 : fs_139[9]? = some (.ref a9) := by rw [efs_139, List.getElem?_set_ne (by decide)]; exact fs_130h9
  have fs_139h10 : fs_139[10]? = some (.int 18) := by rw [efs_139, List.getElem?_set_self (by have := lfs_130; omega)]
  have hP : va_P (dC, dI) vwCl [(h0, .inr (11, fs_139)), (a9, .inl (c9, 400, .inl f_138))] H := hP
  have hD : va_D A [(h0, .inr (11, fs_139)), (a9, .inl (c9, 400, .inl f_138))] := hD
  refine lv_iinc (v := 18) (lv' := [(6, .int 18), (7, .int p4), (0, .ref h0), (1, .int p0), (2, .int p1), (3, .int p2), (4, .int p3), (5, .int p4)]) hx hb dX9_feed_108 hl (k := 1) rfl (by decide) (by decide) rfl (fun ls hl => ?_)
  refine lv_goto (tgt := 18) hx hb dX9_feed_111 (by decide) ?_
  refine lv_iload hx hb dX9_feed_18 (lv_at hl 0 rfl) ?_
  refine lv_bipush (v := 20) hx hb dX9_feed_20 (by decide) ?_
  refine lv_icmp_ge (tgt := 114) hx hb dX9_feed_22 (by decide) (fun c_140 => absurd c_140 (by decide)) (fun c_140 => ?_)
  refine lv_iload hx hb dX9_feed_25 (lv_at hl 0 rfl) ?_
  refine lv_iconst (v := 4) hx hb dX9_feed_27 (by decide) ?_
  refine lv_icmp_ge (tgt := 35) hx hb dX9_feed_28 (by decide) (fun c_141 => ?_) (fun c_141 => absurd (by decide) c_141)
  refine lv_iload hx hb dX9_feed_35 (lv_at hl 0 rfl) ?_
  refine lv_bipush (v := 8) hx hb dX9_feed_37 (by decide) ?_
  refine lv_icmp_ge (tgt := 46) hx hb dX9_feed_39 (by decide) (fun c_142 => ?_) (fun c_142 => absurd (by decide) c_142)
  refine lv_iload hx hb dX9_feed_46 (lv_at hl 0 rfl) ?_
  refine lv_bipush (v := 12) hx hb dX9_feed_48 (by decide) ?_
  refine lv_icmp_ge (tgt := 57) hx hb dX9_feed_50 (by decide) (fun c_143 => ?_) (fun c_143 => absurd (by decide) c_143)
  refine lv_iload hx hb dX9_feed_57 (lv_at hl 0 rfl) ?_
  refine lv_bipush (v := 16) hx hb dX9_feed_59 (by decide) ?_
  refine lv_icmp_ge (tgt := 69) hx hb dX9_feed_61 (by decide) (fun c_144 => ?_) (fun c_144 => absurd (by decide) c_144)
  refine lv_iload hx hb dX9_feed_69 (lv_at hl 7 rfl) ?_
  refine lv_istore (lv' := [(7, .int p4), (6, .int 18), (0, .ref h0), (1, .int p0), (2, .int p1), (3, .int p2), (4, .int p3), (5, .int p4)]) hx hb dX9_feed_71 hl (by decide) rfl (fun ls hl => ?_)
  refine lv_aload_n hx hb dX9_feed_73 rfl (lv_at hl 2 rfl) ?_
  refine va_get (D := (dC, dI)) (ci := 11) (v := .ref a9) (C := RX9) (T := TX9) (N := 60) hx hb hts iRX9 hown hK hP 0 rfl rfl 9 (by decide) (hts (.fieldLink RX9 39 "RecordBenchModel" "tape" "[I") (by decide +kernel)) (fun _ h9 => h9) fs_139h9 dX9_feed_74 ?_
  refine lv_aload_n hx hb dX9_feed_77 rfl (lv_at hl 2 rfl) ?_
  refine va_get (D := (dC, dI)) (ci := 11) (v := .int 18) (C := RX9) (T := TX9) (N := 60) hx hb hts iRX9 hown hK hP 0 rfl rfl 10 (by decide) (hts (.fieldLink RX9 132 "RecordBenchModel" "taped" "I") (by decide +kernel)) (fun _ h9 => h9) fs_139h10 dX9_feed_78 ?_
  refine lv_iload hx hb dX9_feed_81 (lv_at hl 0 rfl) ?_
  refine lv_bipush (v := 8) hx hb dX9_feed_83 (by decide) ?_
  refine lv_iconst (v := 3) hx hb dX9_feed_85 (by decide) ?_
  refine lv_iload hx hb dX9_feed_86 (lv_at hl 1 rfl) ?_
  refine lv_iconst (v := 4) hx hb dX9_feed_88 (by decide) ?_
  refine lv_irem hx hb dX9_feed_89 (by decide) ?_
  refine W_toi (y := 2) (by decide) ?_
  refine lv_isub hx hb dX9_feed_90 ?_
  refine W_toi (y := 1) (by decide) ?_
  refine lv_imul hx hb dX9_feed_91 ?_
  refine W_toi (y := 8) (by decide) ?_
  refine lv_ishr hx hb dX9_feed_92 ?_
  refine lv_topi (fun z_145 ez_145 => ?_)
  refine lv_sipush (v := 255) hx hb dX9_feed_93 (by decide) ?_
  refine lv_iand hx hb dX9_feed_96 ?_
  refine lv_topi (fun z_146 ez_146 => ?_)
  refine va_iast hx hb hK hP hD hS 1 0 rfl rfl (by unfold vp_in; decide) dX9_feed_97 (fun H locs hP hD hS => ?_)
  obtain ⟨f_147, ef_147⟩ : ∃ y : Nat → Int32, y = upd f_138 (18 : Int32).toNatClampNeg z_146 := ⟨_, rfl⟩
  have hP : va_P (dC, dI) vwCl [(h0, .inr (11, fs_139)), (a9, .inl (c9, 400, .inl f_147))] H := by rw [ef_147]; exact hP
  have hD : va_D A [(h0, .inr (11, fs_139)), (a9, .inl (c9, 400, .inl f_147))] := by rw [ef_147]; exact hD
  refine lv_aload_n hx hb dX9_feed_98 rfl (lv_at hl 2 rfl) ?_
  refine lv_dup hx hb dX9_feed_99 rfl ?_
  refine va_get (D := (dC, dI)) (ci := 11) (v := .int 18) (C := RX9) (T := TX9) (N := 60) hx hb hts iRX9 hown hK hP 0 rfl rfl 10 (by decide) (hts (.fieldLink RX9 132 "RecordBenchModel" "taped" "I") (by decide +kernel)) (fun _ h9 => h9) fs_139h10 dX9_feed_100 ?_
  refine lv_iconst (v := 1) hx hb dX9_feed_103 (by decide) ?_
  refine lv_iadd hx hb dX9_feed_104 ?_
  refine W_toi (y := 19) (by decide) ?_
  refine va_put (D := (dC, dI)) (ci := 11) (v := .int 19) (ty := .int) (C := RX9) (T := TX9) (N := 60) hx hb hts iRX9 tyX9 tyX9_ok nmX9 hown hK hP hD hS 0 rfl rfl 10 (by decide) (hts (.fieldLink RX9 132 "RecordBenchModel" "taped" "I") (by decide +kernel)) (fun _ h9 => h9) rfl (by decide +kernel) rfl rfl (by have := lfs_139; omega) dX9_feed_105 (fun H locs hP hD hS => ?_)
  obtain ⟨fs_148, efs_148⟩ : ∃ y, y = fs_139.set 10 (.int 19) := ⟨_, rfl⟩
  rw [← efs_148] at hP hD
  have lfs_148 : fs_148.length = 60 := by rw [efs_148, List.length_set]; exact lfs_139
  have fs_148h9 : fs_148[9]? = some (.ref a9) := by rw [efs_148, List.getElem?_set_ne (by decide)]; exact fs_139h9
  have fs_148h10 : fs_148[10]? = some (.int 19) := by rw [efs_148, List.getElem?_set_self (by have := lfs_139; omega)]
  have hP : va_P (dC, dI) vwCl [(h0, .inr (11, fs_148)), (a9, .inl (c9, 400, .inl f_147))] H := hP
  have hD : va_D A [(h0, .inr (11, fs_148)), (a9, .inl (c9, 400, .inl f_147))] := hD
  refine lv_iinc (v := 19) (lv' := [(6, .int 19), (7, .int p4), (0, .ref h0), (1, .int p0), (2, .int p1), (3, .int p2), (4, .int p3), (5, .int p4)]) hx hb dX9_feed_108 hl (k := 1) rfl (by decide) (by decide) rfl (fun ls hl => ?_)
  refine lv_goto (tgt := 18) hx hb dX9_feed_111 (by decide) ?_
  refine lv_iload hx hb dX9_feed_18 (lv_at hl 0 rfl) ?_
  refine lv_bipush (v := 20) hx hb dX9_feed_20 (by decide) ?_
  refine lv_icmp_ge (tgt := 114) hx hb dX9_feed_22 (by decide) (fun c_149 => absurd c_149 (by decide)) (fun c_149 => ?_)
  refine lv_iload hx hb dX9_feed_25 (lv_at hl 0 rfl) ?_
  refine lv_iconst (v := 4) hx hb dX9_feed_27 (by decide) ?_
  refine lv_icmp_ge (tgt := 35) hx hb dX9_feed_28 (by decide) (fun c_150 => ?_) (fun c_150 => absurd (by decide) c_150)
  refine lv_iload hx hb dX9_feed_35 (lv_at hl 0 rfl) ?_
  refine lv_bipush (v := 8) hx hb dX9_feed_37 (by decide) ?_
  refine lv_icmp_ge (tgt := 46) hx hb dX9_feed_39 (by decide) (fun c_151 => ?_) (fun c_151 => absurd (by decide) c_151)
  refine lv_iload hx hb dX9_feed_46 (lv_at hl 0 rfl) ?_
  refine lv_bipush (v := 12) hx hb dX9_feed_48 (by decide) ?_
  refine lv_icmp_ge (tgt := 57) hx hb dX9_feed_50 (by decide) (fun c_152 => ?_) (fun c_152 => absurd (by decide) c_152)
  refine lv_iload hx hb dX9_feed_57 (lv_at hl 0 rfl) ?_
  refine lv_bipush (v := 16) hx hb dX9_feed_59 (by decide) ?_
  refine lv_icmp_ge (tgt := 69) hx hb dX9_feed_61 (by decide) (fun c_153 => ?_) (fun c_153 => absurd (by decide) c_153)
  refine lv_iload hx hb dX9_feed_69 (lv_at hl 7 rfl) ?_
  refine lv_istore (lv' := [(7, .int p4), (6, .int 19), (0, .ref h0), (1, .int p0), (2, .int p1), (3, .int p2), (4, .int p3), (5, .int p4)]) hx hb dX9_feed_71 hl (by decide) rfl (fun ls hl => ?_)
  refine lv_aload_n hx hb dX9_feed_73 rfl (lv_at hl 2 rfl) ?_
  refine va_get (D := (dC, dI)) (ci := 11) (v := .ref a9) (C := RX9) (T := TX9) (N := 60) hx hb hts iRX9 hown hK hP 0 rfl rfl 9 (by decide) (hts (.fieldLink RX9 39 "RecordBenchModel" "tape" "[I") (by decide +kernel)) (fun _ h9 => h9) fs_148h9 dX9_feed_74 ?_
  refine lv_aload_n hx hb dX9_feed_77 rfl (lv_at hl 2 rfl) ?_
  refine va_get (D := (dC, dI)) (ci := 11) (v := .int 19) (C := RX9) (T := TX9) (N := 60) hx hb hts iRX9 hown hK hP 0 rfl rfl 10 (by decide) (hts (.fieldLink RX9 132 "RecordBenchModel" "taped" "I") (by decide +kernel)) (fun _ h9 => h9) fs_148h10 dX9_feed_78 ?_
  refine lv_iload hx hb dX9_feed_81 (lv_at hl 0 rfl) ?_
  refine lv_bipush (v := 8) hx hb dX9_feed_83 (by decide) ?_
  refine lv_iconst (v := 3) hx hb dX9_feed_85 (by decide) ?_
  refine lv_iload hx hb dX9_feed_86 (lv_at hl 1 rfl) ?_
  refine lv_iconst (v := 4) hx hb dX9_feed_88 (by decide) ?_
  refine lv_irem hx hb dX9_feed_89 (by decide) ?_
  refine W_toi (y := 3) (by decide) ?_
  refine lv_isub hx hb dX9_feed_90 ?_
  refine W_toi (y := 0) (by decide) ?_
  refine lv_imul hx hb dX9_feed_91 ?_
  refine W_toi (y := 0) (by decide) ?_
  refine lv_ishr hx hb dX9_feed_92 ?_
  refine lv_topi (fun z_154 ez_154 => ?_)
  refine lv_sipush (v := 255) hx hb dX9_feed_93 (by decide) ?_
  refine lv_iand hx hb dX9_feed_96 ?_
  refine lv_topi (fun z_155 ez_155 => ?_)
  refine va_iast hx hb hK hP hD hS 1 0 rfl rfl (by unfold vp_in; decide) dX9_feed_97 (fun H locs hP hD hS => ?_)
  obtain ⟨f_156, ef_156⟩ : ∃ y : Nat → Int32, y = upd f_147 (19 : Int32).toNatClampNeg z_155 := ⟨_, rfl⟩
  have hP : va_P (dC, dI) vwCl [(h0, .inr (11, fs_148)), (a9, .inl (c9, 400, .inl f_156))] H := by rw [ef_156]; exact hP
  have hD : va_D A [(h0, .inr (11, fs_148)), (a9, .inl (c9, 400, .inl f_156))] := by rw [ef_156]; exact hD
  refine lv_aload_n hx hb dX9_feed_98 rfl (lv_at hl 2 rfl) ?_
  refine lv_dup hx hb dX9_feed_99 rfl ?_
  refine va_get (D := (dC, dI)) (ci := 11) (v := .int 19) (C := RX9) (T := TX9) (N := 60) hx hb hts iRX9 hown hK hP 0 rfl rfl 10 (by decide) (hts (.fieldLink RX9 132 "RecordBenchModel" "taped" "I") (by decide +kernel)) (fun _ h9 => h9) fs_148h10 dX9_feed_100 ?_
  refine lv_iconst (v := 1) hx hb dX9_feed_103 (by decide) ?_
  refine lv_iadd hx hb dX9_feed_104 ?_
  refine W_toi (y := 20) (by decide) ?_
  refine va_put (D := (dC, dI)) (ci := 11) (v := .int 20) (ty := .int) (C := RX9) (T := TX9) (N := 60) hx hb hts iRX9 tyX9 tyX9_ok nmX9 hown hK hP hD hS 0 rfl rfl 10 (by decide) (hts (.fieldLink RX9 132 "RecordBenchModel" "taped" "I") (by decide +kernel)) (fun _ h9 => h9) rfl (by decide +kernel) rfl rfl (by have := lfs_148; omega) dX9_feed_105 (fun H locs hP hD hS => ?_)
  obtain ⟨fs_157, efs_157⟩ : ∃ y, y = fs_148.set 10 (.int 20) := ⟨_, rfl⟩
  rw [← efs_157] at hP hD
  have lfs_157 : fs_157.length = 60 := by rw [efs_157, List.length_set]; exact lfs_148
  have fs_157h9 : fs_157[9]? = some (.ref a9) := by rw [efs_157, List.getElem?_set_ne (by decide)]; exact fs_148h9
  have fs_157h10 : fs_157[10]? = some (.int 20) := by rw [efs_157, List.getElem?_set_self (by have := lfs_148; omega)]
  have hP : va_P (dC, dI) vwCl [(h0, .inr (11, fs_157)), (a9, .inl (c9, 400, .inl f_156))] H := hP
  have hD : va_D A [(h0, .inr (11, fs_157)), (a9, .inl (c9, 400, .inl f_156))] := hD
  refine lv_iinc (v := 20) (lv' := [(6, .int 20), (7, .int p4), (0, .ref h0), (1, .int p0), (2, .int p1), (3, .int p2), (4, .int p3), (5, .int p4)]) hx hb dX9_feed_108 hl (k := 1) rfl (by decide) (by decide) rfl (fun ls hl => ?_)
  refine lv_goto (tgt := 18) hx hb dX9_feed_111 (by decide) ?_
  refine lv_iload hx hb dX9_feed_18 (lv_at hl 0 rfl) ?_
  refine lv_bipush (v := 20) hx hb dX9_feed_20 (by decide) ?_
  refine lv_icmp_ge (tgt := 114) hx hb dX9_feed_22 (by decide) (fun c_158 => ?_) (fun c_158 => absurd (by decide) c_158)
  refine lv_aload_n hx hb dX9_feed_114 rfl (lv_at hl 2 rfl) ?_
  refine va_get (D := (dC, dI)) (ci := 11) (v := .int 20) (C := RX9) (T := TX9) (N := 60) hx hb hts iRX9 hown hK hP 0 rfl rfl 10 (by decide) (hts (.fieldLink RX9 132 "RecordBenchModel" "taped" "I") (by decide +kernel)) (fun _ h9 => h9) fs_157h10 dX9_feed_115 ?_
  have hP9 := hP.sub (ws' := []) [] rfl
  have hD9 := hD.sub (ws' := []) [] (by decide) rfl
  have hK9 := hK.sub (tys' := []) [] rfl
  exact W.iret (v := 20) hx hb hr (fun t ht hW => ⟨⟨20, (), rfl, rfl, by rw [ht]; exact hP9, va_K.moved hW.alike hK9, hD9⟩, hS.F ht⟩) hS.2.2 dX9_feed_118
