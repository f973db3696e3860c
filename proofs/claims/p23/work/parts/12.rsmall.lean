theorem dX9_at_0 : decode cX9_at 0 = .ok (.iload_n 1, 1) := by decide +kernel
theorem dX9_at_1 : decode cX9_at 1 = .ok (.invokestatic 249, 3) := by decide +kernel
theorem dX9_at_11 : decode cX9_at 11 = .ok (.iload_n 2, 1) := by decide +kernel
theorem dX9_at_12 : decode cX9_at 12 = .ok (.aload_n 0, 1) := by decide +kernel
theorem dX9_at_13 : decode cX9_at 13 = .ok (.getfield 78, 3) := by decide +kernel
theorem dX9_at_16 : decode cX9_at 16 = .ok (.iload_n 1, 1) := by decide +kernel
theorem dX9_at_17 : decode cX9_at 17 = .ok (.iaload, 1) := by decide +kernel
theorem dX9_at_18 : decode cX9_at 18 = .ok (.if_icmp .ge 17, 3) := by decide +kernel
theorem dX9_at_21 : decode cX9_at 21 = .ok (.aload_n 0, 1) := by decide +kernel
theorem dX9_at_22 : decode cX9_at 22 = .ok (.getfield 75, 3) := by decide +kernel
theorem dX9_at_25 : decode cX9_at 25 = .ok (.bipush 120, 2) := by decide +kernel
theorem dX9_at_27 : decode cX9_at 27 = .ok (.iload_n 1, 1) := by decide +kernel
theorem dX9_at_28 : decode cX9_at 28 = .ok (.imul, 1) := by decide +kernel
theorem dX9_at_29 : decode cX9_at 29 = .ok (.iload_n 2, 1) := by decide +kernel
theorem dX9_at_30 : decode cX9_at 30 = .ok (.iadd, 1) := by decide +kernel
theorem dX9_at_31 : decode cX9_at 31 = .ok (.iaload, 1) := by decide +kernel
theorem dX9_at_32 : decode cX9_at 32 = .ok (.goto 4, 3) := by decide +kernel
theorem dX9_at_35 : decode cX9_at 35 = .ok (.iconst (-1), 1) := by decide +kernel
theorem dX9_at_36 : decode cX9_at 36 = .ok (.ireturn, 1) := by decide +kernel
theorem dX9_at_4 : decode cX9_at 4 = .ok (.ifCond .eq 31, 3) := by decide +kernel
theorem dX9_at_7 : decode cX9_at 7 = .ok (.iload_n 2, 1) := by decide +kernel
theorem dX9_at_8 : decode cX9_at 8 = .ok (.ifCond .lt 27, 3) := by decide +kernel
theorem dX9_clear_0 : decode cX9_clear 0 = .ok (.iload_n 1, 1) := by decide +kernel
theorem dX9_clear_1 : decode cX9_clear 1 = .ok (.invokestatic 249, 3) := by decide +kernel
theorem dX9_clear_10 : decode cX9_clear 10 = .ok (.getfield 78, 3) := by decide +kernel
theorem dX9_clear_13 : decode cX9_clear 13 = .ok (.iload_n 1, 1) := by decide +kernel
theorem dX9_clear_14 : decode cX9_clear 14 = .ok (.iaload, 1) := by decide +kernel
theorem dX9_clear_15 : decode cX9_clear 15 = .ok (.istore_n 2, 1) := by decide +kernel
theorem dX9_clear_16 : decode cX9_clear 16 = .ok (.aload_n 0, 1) := by decide +kernel
theorem dX9_clear_17 : decode cX9_clear 17 = .ok (.getfield 78, 3) := by decide +kernel
theorem dX9_clear_20 : decode cX9_clear 20 = .ok (.iload_n 1, 1) := by decide +kernel
theorem dX9_clear_21 : decode cX9_clear 21 = .ok (.iconst 0, 1) := by decide +kernel
theorem dX9_clear_22 : decode cX9_clear 22 = .ok (.iastore, 1) := by decide +kernel
theorem dX9_clear_23 : decode cX9_clear 23 = .ok (.iload_n 2, 1) := by decide +kernel
theorem dX9_clear_24 : decode cX9_clear 24 = .ok (.ireturn, 1) := by decide +kernel
theorem dX9_clear_4 : decode cX9_clear 4 = .ok (.ifCond .ne 5, 3) := by decide +kernel
theorem dX9_clear_7 : decode cX9_clear 7 = .ok (.iconst (-1), 1) := by decide +kernel
theorem dX9_clear_8 : decode cX9_clear 8 = .ok (.ireturn, 1) := by decide +kernel
theorem dX9_clear_9 : decode cX9_clear 9 = .ok (.aload_n 0, 1) := by decide +kernel
theorem dX9_end_0 : decode cX9_end 0 = .ok (.iload_n 1, 1) := by decide +kernel
theorem dX9_end_1 : decode cX9_end 1 = .ok (.ifCond .lt 11, 3) := by decide +kernel
theorem dX9_end_12 : decode cX9_end 12 = .ok (.iconst 0, 1) := by decide +kernel
theorem dX9_end_13 : decode cX9_end 13 = .ok (.ireturn, 1) := by decide +kernel
theorem dX9_end_14 : decode cX9_end 14 = .ok (.aload_n 0, 1) := by decide +kernel
theorem dX9_end_15 : decode cX9_end 15 = .ok (.iload_n 1, 1) := by decide +kernel
theorem dX9_end_16 : decode cX9_end 16 = .ok (.putfield 132, 3) := by decide +kernel
theorem dX9_end_19 : decode cX9_end 19 = .ok (.iconst 1, 1) := by decide +kernel
theorem dX9_end_20 : decode cX9_end 20 = .ok (.ireturn, 1) := by decide +kernel
theorem dX9_end_4 : decode cX9_end 4 = .ok (.iload_n 1, 1) := by decide +kernel
theorem dX9_end_5 : decode cX9_end 5 = .ok (.aload_n 0, 1) := by decide +kernel
theorem dX9_end_6 : decode cX9_end 6 = .ok (.getfield 132, 3) := by decide +kernel
theorem dX9_end_9 : decode cX9_end 9 = .ok (.if_icmp .le 5, 3) := by decide +kernel
theorem dX9_fault_0 : decode cX9_fault 0 = .ok (.iload_n 1, 1) := by decide +kernel
theorem dX9_fault_1 : decode cX9_fault 1 = .ok (.ifCond .ne 10, 3) := by decide +kernel
theorem dX9_fault_11 : decode cX9_fault 11 = .ok (.iload_n 1, 1) := by decide +kernel
theorem dX9_fault_12 : decode cX9_fault 12 = .ok (.iconst 1, 1) := by decide +kernel
theorem dX9_fault_13 : decode cX9_fault 13 = .ok (.if_icmp .ne 10, 3) := by decide +kernel
theorem dX9_fault_16 : decode cX9_fault 16 = .ok (.aload_n 0, 1) := by decide +kernel
theorem dX9_fault_17 : decode cX9_fault 17 = .ok (.getfield 42, 3) := by decide +kernel
theorem dX9_fault_20 : decode cX9_fault 20 = .ok (.goto 4, 3) := by decide +kernel
theorem dX9_fault_23 : decode cX9_fault 23 = .ok (.iconst (-1), 1) := by decide +kernel
theorem dX9_fault_24 : decode cX9_fault 24 = .ok (.ireturn, 1) := by decide +kernel
theorem dX9_fault_4 : decode cX9_fault 4 = .ok (.aload_n 0, 1) := by decide +kernel
theorem dX9_fault_5 : decode cX9_fault 5 = .ok (.getfield 236, 3) := by decide +kernel
theorem dX9_fault_8 : decode cX9_fault 8 = .ok (.goto 16, 3) := by decide +kernel
theorem dX9_feed_0 : decode cX9_feed 0 = .ok (.aload_n 0, 1) := by decide +kernel
theorem dX9_feed_1 : decode cX9_feed 1 = .ok (.getfield 132, 3) := by decide +kernel
theorem dX9_feed_10 : decode cX9_feed 10 = .ok (.if_icmp .le 5, 3) := by decide +kernel
theorem dX9_feed_100 : decode cX9_feed 100 = .ok (.getfield 132, 3) := by decide +kernel
theorem dX9_feed_103 : decode cX9_feed 103 = .ok (.iconst 1, 1) := by decide +kernel
theorem dX9_feed_104 : decode cX9_feed 104 = .ok (.iadd, 1) := by decide +kernel
theorem dX9_feed_105 : decode cX9_feed 105 = .ok (.putfield 132, 3) := by decide +kernel
theorem dX9_feed_108 : decode cX9_feed 108 = .ok (.iinc 6 1, 3) := by decide +kernel
theorem dX9_feed_111 : decode cX9_feed 111 = .ok (.goto (-93), 3) := by decide +kernel
theorem dX9_feed_114 : decode cX9_feed 114 = .ok (.aload_n 0, 1) := by decide +kernel
theorem dX9_feed_115 : decode cX9_feed 115 = .ok (.getfield 132, 3) := by decide +kernel
theorem dX9_feed_118 : decode cX9_feed 118 = .ok (.ireturn, 1) := by decide +kernel
theorem dX9_feed_13 : decode cX9_feed 13 = .ok (.iconst (-1), 1) := by decide +kernel
theorem dX9_feed_14 : decode cX9_feed 14 = .ok (.ireturn, 1) := by decide +kernel
theorem dX9_feed_15 : decode cX9_feed 15 = .ok (.iconst 0, 1) := by decide +kernel
theorem dX9_feed_16 : decode cX9_feed 16 = .ok (.istore 6, 2) := by decide +kernel
theorem dX9_feed_18 : decode cX9_feed 18 = .ok (.iload 6, 2) := by decide +kernel
theorem dX9_feed_20 : decode cX9_feed 20 = .ok (.bipush 20, 2) := by decide +kernel
theorem dX9_feed_22 : decode cX9_feed 22 = .ok (.if_icmp .ge 92, 3) := by decide +kernel
theorem dX9_feed_25 : decode cX9_feed 25 = .ok (.iload 6, 2) := by decide +kernel
theorem dX9_feed_27 : decode cX9_feed 27 = .ok (.iconst 4, 1) := by decide +kernel
theorem dX9_feed_28 : decode cX9_feed 28 = .ok (.if_icmp .ge 7, 3) := by decide +kernel
theorem dX9_feed_31 : decode cX9_feed 31 = .ok (.iload_n 1, 1) := by decide +kernel
theorem dX9_feed_32 : decode cX9_feed 32 = .ok (.goto 39, 3) := by decide +kernel
theorem dX9_feed_35 : decode cX9_feed 35 = .ok (.iload 6, 2) := by decide +kernel
theorem dX9_feed_37 : decode cX9_feed 37 = .ok (.bipush 8, 2) := by decide +kernel
theorem dX9_feed_39 : decode cX9_feed 39 = .ok (.if_icmp .ge 7, 3) := by decide +kernel
theorem dX9_feed_4 : decode cX9_feed 4 = .ok (.bipush 20, 2) := by decide +kernel
theorem dX9_feed_42 : decode cX9_feed 42 = .ok (.iload_n 2, 1) := by decide +kernel
theorem dX9_feed_43 : decode cX9_feed 43 = .ok (.goto 28, 3) := by decide +kernel
theorem dX9_feed_46 : decode cX9_feed 46 = .ok (.iload 6, 2) := by decide +kernel
theorem dX9_feed_48 : decode cX9_feed 48 = .ok (.bipush 12, 2) := by decide +kernel
theorem dX9_feed_50 : decode cX9_feed 50 = .ok (.if_icmp .ge 7, 3) := by decide +kernel
theorem dX9_feed_53 : decode cX9_feed 53 = .ok (.iload_n 3, 1) := by decide +kernel
theorem dX9_feed_54 : decode cX9_feed 54 = .ok (.goto 17, 3) := by decide +kernel
theorem dX9_feed_57 : decode cX9_feed 57 = .ok (.iload 6, 2) := by decide +kernel
theorem dX9_feed_59 : decode cX9_feed 59 = .ok (.bipush 16, 2) := by decide +kernel
theorem dX9_feed_6 : decode cX9_feed 6 = .ok (.iadd, 1) := by decide +kernel
theorem dX9_feed_61 : decode cX9_feed 61 = .ok (.if_icmp .ge 8, 3) := by decide +kernel
theorem dX9_feed_64 : decode cX9_feed 64 = .ok (.iload 4, 2) := by decide +kernel
theorem dX9_feed_66 : decode cX9_feed 66 = .ok (.goto 5, 3) := by decide +kernel
theorem dX9_feed_69 : decode cX9_feed 69 = .ok (.iload 5, 2) := by decide +kernel
theorem dX9_feed_7 : decode cX9_feed 7 = .ok (.sipush 400, 3) := by decide +kernel
theorem dX9_feed_71 : decode cX9_feed 71 = .ok (.istore 7, 2) := by decide +kernel
theorem dX9_feed_73 : decode cX9_feed 73 = .ok (.aload_n 0, 1) := by decide +kernel
theorem dX9_feed_74 : decode cX9_feed 74 = .ok (.getfield 39, 3) := by decide +kernel
theorem dX9_feed_77 : decode cX9_feed 77 = .ok (.aload_n 0, 1) := by decide +kernel
theorem dX9_feed_78 : decode cX9_feed 78 = .ok (.getfield 132, 3) := by decide +kernel
theorem dX9_feed_81 : decode cX9_feed 81 = .ok (.iload 7, 2) := by decide +kernel
theorem dX9_feed_83 : decode cX9_feed 83 = .ok (.bipush 8, 2) := by decide +kernel
theorem dX9_feed_85 : decode cX9_feed 85 = .ok (.iconst 3, 1) := by decide +kernel
theorem dX9_feed_86 : decode cX9_feed 86 = .ok (.iload 6, 2) := by decide +kernel
theorem dX9_feed_88 : decode cX9_feed 88 = .ok (.iconst 4, 1) := by decide +kernel
theorem dX9_feed_89 : decode cX9_feed 89 = .ok (.irem, 1) := by decide +kernel
theorem dX9_feed_90 : decode cX9_feed 90 = .ok (.isub, 1) := by decide +kernel
theorem dX9_feed_91 : decode cX9_feed 91 = .ok (.imul, 1) := by decide +kernel
theorem dX9_feed_92 : decode cX9_feed 92 = .ok (.ishr, 1) := by decide +kernel
theorem dX9_feed_93 : decode cX9_feed 93 = .ok (.sipush 255, 3) := by decide +kernel
theorem dX9_feed_96 : decode cX9_feed 96 = .ok (.iand, 1) := by decide +kernel
theorem dX9_feed_97 : decode cX9_feed 97 = .ok (.iastore, 1) := by decide +kernel
theorem dX9_feed_98 : decode cX9_feed 98 = .ok (.aload_n 0, 1) := by decide +kernel
theorem dX9_feed_99 : decode cX9_feed 99 = .ok (.dup, 1) := by decide +kernel
theorem dX9_field__0 : decode cX9_field_ 0 = .ok (.aload_n 0, 1) := by decide +kernel
theorem dX9_field__1 : decode cX9_field_ 1 = .ok (.iload_n 1, 1) := by decide +kernel
theorem dX9_field__10 : decode cX9_field_ 10 = .ok (.ireturn, 1) := by decide +kernel
theorem dX9_field__100 : decode cX9_field_ 100 = .ok (.iconst (-1), 1) := by decide +kernel
theorem dX9_field__101 : decode cX9_field_ 101 = .ok (.ireturn, 1) := by decide +kernel
theorem dX9_field__11 : decode cX9_field_ 11 = .ok (.bipush 31, 2) := by decide +kernel
theorem dX9_field__13 : decode cX9_field_ 13 = .ok (.iload_n 1, 1) := by decide +kernel
theorem dX9_field__14 : decode cX9_field_ 14 = .ok (.imul, 1) := by decide +kernel
theorem dX9_field__15 : decode cX9_field_ 15 = .ok (.iload_n 2, 1) := by decide +kernel
theorem dX9_field__16 : decode cX9_field_ 16 = .ok (.iadd, 1) := by decide +kernel
theorem dX9_field__17 : decode cX9_field_ 17 = .ok (.istore 4, 2) := by decide +kernel
theorem dX9_field__19 : decode cX9_field_ 19 = .ok (.iload_n 3, 1) := by decide +kernel
theorem dX9_field__2 : decode cX9_field_ 2 = .ok (.iload_n 2, 1) := by decide +kernel
theorem dX9_field__20 : decode cX9_field_ 20 = .ok (.tableswitch 80 0 3 #[32, 40, 48, 72], 32) := by decide +kernel
theorem dX9_field__3 : decode cX9_field_ 3 = .ok (.invokevirtual 242, 3) := by decide +kernel
theorem dX9_field__52 : decode cX9_field_ 52 = .ok (.aload_n 0, 1) := by decide +kernel
theorem dX9_field__53 : decode cX9_field_ 53 = .ok (.getfield 13, 3) := by decide +kernel
theorem dX9_field__56 : decode cX9_field_ 56 = .ok (.iload 4, 2) := by decide +kernel
theorem dX9_field__58 : decode cX9_field_ 58 = .ok (.iaload, 1) := by decide +kernel
theorem dX9_field__59 : decode cX9_field_ 59 = .ok (.ireturn, 1) := by decide +kernel
theorem dX9_field__6 : decode cX9_field_ 6 = .ok (.ifCond .ne 5, 3) := by decide +kernel
theorem dX9_field__60 : decode cX9_field_ 60 = .ok (.aload_n 0, 1) := by decide +kernel
theorem dX9_field__61 : decode cX9_field_ 61 = .ok (.getfield 17, 3) := by decide +kernel
theorem dX9_field__64 : decode cX9_field_ 64 = .ok (.iload 4, 2) := by decide +kernel
theorem dX9_field__66 : decode cX9_field_ 66 = .ok (.iaload, 1) := by decide +kernel
theorem dX9_field__67 : decode cX9_field_ 67 = .ok (.ireturn, 1) := by decide +kernel
theorem dX9_field__68 : decode cX9_field_ 68 = .ok (.aload_n 0, 1) := by decide +kernel
theorem dX9_field__69 : decode cX9_field_ 69 = .ok (.getfield 13, 3) := by decide +kernel
theorem dX9_field__72 : decode cX9_field_ 72 = .ok (.iload 4, 2) := by decide +kernel
theorem dX9_field__74 : decode cX9_field_ 74 = .ok (.iaload, 1) := by decide +kernel
theorem dX9_field__75 : decode cX9_field_ 75 = .ok (.bipush 6, 2) := by decide +kernel
theorem dX9_field__77 : decode cX9_field_ 77 = .ok (.if_icmp .ne 13, 3) := by decide +kernel
theorem dX9_field__80 : decode cX9_field_ 80 = .ok (.aload_n 0, 1) := by decide +kernel
theorem dX9_field__81 : decode cX9_field_ 81 = .ok (.getfield 20, 3) := by decide +kernel
theorem dX9_field__84 : decode cX9_field_ 84 = .ok (.iload 4, 2) := by decide +kernel
theorem dX9_field__86 : decode cX9_field_ 86 = .ok (.iaload, 1) := by decide +kernel
theorem dX9_field__87 : decode cX9_field_ 87 = .ok (.goto 4, 3) := by decide +kernel
theorem dX9_field__9 : decode cX9_field_ 9 = .ok (.iconst (-1), 1) := by decide +kernel
theorem dX9_field__90 : decode cX9_field_ 90 = .ok (.iconst (-1), 1) := by decide +kernel
theorem dX9_field__91 : decode cX9_field_ 91 = .ok (.ireturn, 1) := by decide +kernel
theorem dX9_field__92 : decode cX9_field_ 92 = .ok (.aload_n 0, 1) := by decide +kernel
theorem dX9_field__93 : decode cX9_field_ 93 = .ok (.getfield 23, 3) := by decide +kernel
theorem dX9_field__96 : decode cX9_field_ 96 = .ok (.iload 4, 2) := by decide +kernel
theorem dX9_field__98 : decode cX9_field_ 98 = .ok (.iaload, 1) := by decide +kernel
theorem dX9_field__99 : decode cX9_field_ 99 = .ok (.ireturn, 1) := by decide +kernel
theorem dX9_has_0 : decode cX9_has 0 = .ok (.iload_n 2, 1) := by decide +kernel
theorem dX9_has_1 : decode cX9_has 1 = .ok (.ifCond .le 41, 3) := by decide +kernel
theorem dX9_has_10 : decode cX9_has 10 = .ok (.aload_n 0, 1) := by decide +kernel
theorem dX9_has_11 : decode cX9_has 11 = .ok (.getfield 36, 3) := by decide +kernel
theorem dX9_has_14 : decode cX9_has 14 = .ok (.bipush 31, 2) := by decide +kernel
theorem dX9_has_16 : decode cX9_has 16 = .ok (.iload_n 1, 1) := by decide +kernel
theorem dX9_has_17 : decode cX9_has 17 = .ok (.imul, 1) := by decide +kernel
theorem dX9_has_18 : decode cX9_has 18 = .ok (.iload_n 2, 1) := by decide +kernel
theorem dX9_has_19 : decode cX9_has 19 = .ok (.iadd, 1) := by decide +kernel
theorem dX9_has_20 : decode cX9_has 20 = .ok (.baload, 1) := by decide +kernel
theorem dX9_has_21 : decode cX9_has 21 = .ok (.ifCond .eq 21, 3) := by decide +kernel
theorem dX9_has_24 : decode cX9_has 24 = .ok (.aload_n 0, 1) := by decide +kernel
theorem dX9_has_25 : decode cX9_has 25 = .ok (.getfield 13, 3) := by decide +kernel
theorem dX9_has_28 : decode cX9_has 28 = .ok (.bipush 31, 2) := by decide +kernel
theorem dX9_has_30 : decode cX9_has 30 = .ok (.iload_n 1, 1) := by decide +kernel
theorem dX9_has_31 : decode cX9_has 31 = .ok (.imul, 1) := by decide +kernel
theorem dX9_has_32 : decode cX9_has 32 = .ok (.iload_n 2, 1) := by decide +kernel
theorem dX9_has_33 : decode cX9_has 33 = .ok (.iadd, 1) := by decide +kernel
theorem dX9_has_34 : decode cX9_has 34 = .ok (.iaload, 1) := by decide +kernel
theorem dX9_has_35 : decode cX9_has 35 = .ok (.ifCond .eq 7, 3) := by decide +kernel
theorem dX9_has_38 : decode cX9_has 38 = .ok (.iconst 1, 1) := by decide +kernel
theorem dX9_has_39 : decode cX9_has 39 = .ok (.goto 4, 3) := by decide +kernel
theorem dX9_has_4 : decode cX9_has 4 = .ok (.iload_n 2, 1) := by decide +kernel
theorem dX9_has_42 : decode cX9_has 42 = .ok (.iconst 0, 1) := by decide +kernel
theorem dX9_has_43 : decode cX9_has 43 = .ok (.ireturn, 1) := by decide +kernel
theorem dX9_has_5 : decode cX9_has 5 = .ok (.bipush 31, 2) := by decide +kernel
theorem dX9_has_7 : decode cX9_has 7 = .ok (.if_icmp .ge 35, 3) := by decide +kernel
theorem dX9_isField_0 : decode cX9_isField 0 = .ok (.aload_n 0, 1) := by decide +kernel
theorem dX9_isField_1 : decode cX9_isField 1 = .ok (.iload_n 1, 1) := by decide +kernel
theorem dX9_isField_12 : decode cX9_isField 12 = .ok (.iload_n 2, 1) := by decide +kernel
theorem dX9_isField_13 : decode cX9_isField 13 = .ok (.bipush 31, 2) := by decide +kernel
theorem dX9_isField_15 : decode cX9_isField 15 = .ok (.if_icmp .ge 21, 3) := by decide +kernel
theorem dX9_isField_18 : decode cX9_isField 18 = .ok (.aload_n 0, 1) := by decide +kernel
theorem dX9_isField_19 : decode cX9_isField 19 = .ok (.getfield 36, 3) := by decide +kernel
theorem dX9_isField_2 : decode cX9_isField 2 = .ok (.invokevirtual 239, 3) := by decide +kernel
theorem dX9_isField_22 : decode cX9_isField 22 = .ok (.bipush 31, 2) := by decide +kernel
theorem dX9_isField_24 : decode cX9_isField 24 = .ok (.iload_n 1, 1) := by decide +kernel
theorem dX9_isField_25 : decode cX9_isField 25 = .ok (.imul, 1) := by decide +kernel
theorem dX9_isField_26 : decode cX9_isField 26 = .ok (.iload_n 2, 1) := by decide +kernel
theorem dX9_isField_27 : decode cX9_isField 27 = .ok (.iadd, 1) := by decide +kernel
theorem dX9_isField_28 : decode cX9_isField 28 = .ok (.baload, 1) := by decide +kernel
theorem dX9_isField_29 : decode cX9_isField 29 = .ok (.ifCond .eq 7, 3) := by decide +kernel
theorem dX9_isField_32 : decode cX9_isField 32 = .ok (.iconst 1, 1) := by decide +kernel
theorem dX9_isField_33 : decode cX9_isField 33 = .ok (.goto 4, 3) := by decide +kernel
theorem dX9_isField_36 : decode cX9_isField 36 = .ok (.iconst 0, 1) := by decide +kernel
theorem dX9_isField_37 : decode cX9_isField 37 = .ok (.ireturn, 1) := by decide +kernel
theorem dX9_isField_5 : decode cX9_isField 5 = .ok (.ifCond .eq 31, 3) := by decide +kernel
theorem dX9_isField_8 : decode cX9_isField 8 = .ok (.iload_n 2, 1) := by decide +kernel
theorem dX9_isField_9 : decode cX9_isField 9 = .ok (.ifCond .le 27, 3) := by decide +kernel
theorem dX9_isMake_0 : decode cX9_isMake 0 = .ok (.iload_n 1, 1) := by decide +kernel
theorem dX9_isMake_1 : decode cX9_isMake 1 = .ok (.ifCond .lt 22, 3) := by decide +kernel
theorem dX9_isMake_10 : decode cX9_isMake 10 = .ok (.aload_n 0, 1) := by decide +kernel
theorem dX9_isMake_11 : decode cX9_isMake 11 = .ok (.getfield 7, 3) := by decide +kernel
theorem dX9_isMake_14 : decode cX9_isMake 14 = .ok (.iload_n 1, 1) := by decide +kernel
theorem dX9_isMake_15 : decode cX9_isMake 15 = .ok (.baload, 1) := by decide +kernel
theorem dX9_isMake_16 : decode cX9_isMake 16 = .ok (.ifCond .eq 7, 3) := by decide +kernel
theorem dX9_isMake_19 : decode cX9_isMake 19 = .ok (.iconst 1, 1) := by decide +kernel
theorem dX9_isMake_20 : decode cX9_isMake 20 = .ok (.goto 4, 3) := by decide +kernel
theorem dX9_isMake_23 : decode cX9_isMake 23 = .ok (.iconst 0, 1) := by decide +kernel
theorem dX9_isMake_24 : decode cX9_isMake 24 = .ok (.ireturn, 1) := by decide +kernel
theorem dX9_isMake_4 : decode cX9_isMake 4 = .ok (.iload_n 1, 1) := by decide +kernel
theorem dX9_isMake_5 : decode cX9_isMake 5 = .ok (.bipush 8, 2) := by decide +kernel
theorem dX9_isMake_7 : decode cX9_isMake 7 = .ok (.if_icmp .ge 16, 3) := by decide +kernel
theorem dX9_isRecord_0 : decode cX9_isRecord 0 = .ok (.iload_n 0, 1) := by decide +kernel
theorem dX9_isRecord_1 : decode cX9_isRecord 1 = .ok (.ifCond .lt 12, 3) := by decide +kernel
theorem dX9_isRecord_10 : decode cX9_isRecord 10 = .ok (.goto 4, 3) := by decide +kernel
theorem dX9_isRecord_13 : decode cX9_isRecord 13 = .ok (.iconst 0, 1) := by decide +kernel
theorem dX9_isRecord_14 : decode cX9_isRecord 14 = .ok (.ireturn, 1) := by decide +kernel
theorem dX9_isRecord_4 : decode cX9_isRecord 4 = .ok (.iload_n 0, 1) := by decide +kernel
theorem dX9_isRecord_5 : decode cX9_isRecord 5 = .ok (.iconst 4, 1) := by decide +kernel
theorem dX9_isRecord_6 : decode cX9_isRecord 6 = .ok (.if_icmp .ge 7, 3) := by decide +kernel
theorem dX9_isRecord_9 : decode cX9_isRecord 9 = .ok (.iconst 1, 1) := by decide +kernel
theorem dX9_load_0 : decode cX9_load 0 = .ok (.iload_n 1, 1) := by decide +kernel
theorem dX9_load_1 : decode cX9_load 1 = .ok (.invokestatic 249, 3) := by decide +kernel
theorem dX9_load_11 : decode cX9_load 11 = .ok (.bipush 120, 2) := by decide +kernel
theorem dX9_load_13 : decode cX9_load 13 = .ok (.if_icmp .le 5, 3) := by decide +kernel
theorem dX9_load_16 : decode cX9_load 16 = .ok (.iconst (-1), 1) := by decide +kernel
theorem dX9_load_17 : decode cX9_load 17 = .ok (.ireturn, 1) := by decide +kernel
theorem dX9_load_18 : decode cX9_load 18 = .ok (.iconst 0, 1) := by decide +kernel
theorem dX9_load_19 : decode cX9_load 19 = .ok (.istore_n 2, 1) := by decide +kernel
theorem dX9_load_20 : decode cX9_load 20 = .ok (.iload_n 2, 1) := by decide +kernel
theorem dX9_load_21 : decode cX9_load 21 = .ok (.aload_n 0, 1) := by decide +kernel
theorem dX9_load_22 : decode cX9_load 22 = .ok (.getfield 132, 3) := by decide +kernel
theorem dX9_load_25 : decode cX9_load 25 = .ok (.if_icmp .ge 26, 3) := by decide +kernel
theorem dX9_load_28 : decode cX9_load 28 = .ok (.aload_n 0, 1) := by decide +kernel
theorem dX9_load_29 : decode cX9_load 29 = .ok (.getfield 75, 3) := by decide +kernel
theorem dX9_load_32 : decode cX9_load 32 = .ok (.bipush 120, 2) := by decide +kernel
theorem dX9_load_34 : decode cX9_load 34 = .ok (.iload_n 1, 1) := by decide +kernel
theorem dX9_load_35 : decode cX9_load 35 = .ok (.imul, 1) := by decide +kernel
theorem dX9_load_36 : decode cX9_load 36 = .ok (.iload_n 2, 1) := by decide +kernel
theorem dX9_load_37 : decode cX9_load 37 = .ok (.iadd, 1) := by decide +kernel
theorem dX9_load_38 : decode cX9_load 38 = .ok (.aload_n 0, 1) := by decide +kernel
theorem dX9_load_39 : decode cX9_load 39 = .ok (.getfield 39, 3) := by decide +kernel
theorem dX9_load_4 : decode cX9_load 4 = .ok (.ifCond .eq 12, 3) := by decide +kernel
theorem dX9_load_42 : decode cX9_load 42 = .ok (.iload_n 2, 1) := by decide +kernel
theorem dX9_load_43 : decode cX9_load 43 = .ok (.iaload, 1) := by decide +kernel
theorem dX9_load_44 : decode cX9_load 44 = .ok (.iastore, 1) := by decide +kernel
theorem dX9_load_45 : decode cX9_load 45 = .ok (.iinc 2 1, 3) := by decide +kernel
theorem dX9_load_48 : decode cX9_load 48 = .ok (.goto (-28), 3) := by decide +kernel
theorem dX9_load_51 : decode cX9_load 51 = .ok (.aload_n 0, 1) := by decide +kernel
theorem dX9_load_52 : decode cX9_load 52 = .ok (.getfield 78, 3) := by decide +kernel
theorem dX9_load_55 : decode cX9_load 55 = .ok (.iload_n 1, 1) := by decide +kernel
theorem dX9_load_56 : decode cX9_load 56 = .ok (.aload_n 0, 1) := by decide +kernel
theorem dX9_load_57 : decode cX9_load 57 = .ok (.getfield 132, 3) := by decide +kernel
theorem dX9_load_60 : decode cX9_load 60 = .ok (.iastore, 1) := by decide +kernel
theorem dX9_load_61 : decode cX9_load 61 = .ok (.aload_n 0, 1) := by decide +kernel
theorem dX9_load_62 : decode cX9_load 62 = .ok (.iconst 0, 1) := by decide +kernel
theorem dX9_load_63 : decode cX9_load 63 = .ok (.putfield 132, 3) := by decide +kernel
theorem dX9_load_66 : decode cX9_load 66 = .ok (.aload_n 0, 1) := by decide +kernel
theorem dX9_load_67 : decode cX9_load 67 = .ok (.getfield 78, 3) := by decide +kernel
theorem dX9_load_7 : decode cX9_load 7 = .ok (.aload_n 0, 1) := by decide +kernel
theorem dX9_load_70 : decode cX9_load 70 = .ok (.iload_n 1, 1) := by decide +kernel
theorem dX9_load_71 : decode cX9_load 71 = .ok (.iaload, 1) := by decide +kernel
theorem dX9_load_72 : decode cX9_load 72 = .ok (.ireturn, 1) := by decide +kernel
theorem dX9_load_8 : decode cX9_load 8 = .ok (.getfield 132, 3) := by decide +kernel
theorem dX9_loads_0 : decode cX9_loads 0 = .ok (.iconst 0, 1) := by decide +kernel
theorem dX9_loads_1 : decode cX9_loads 1 = .ok (.istore_n 2, 1) := by decide +kernel
theorem dX9_loads_12 : decode cX9_loads 12 = .ok (.aload_n 0, 1) := by decide +kernel
theorem dX9_loads_13 : decode cX9_loads 13 = .ok (.getfield 81, 3) := by decide +kernel
theorem dX9_loads_16 : decode cX9_loads 16 = .ok (.iload_n 2, 1) := by decide +kernel
theorem dX9_loads_17 : decode cX9_loads 17 = .ok (.aload_n 0, 1) := by decide +kernel
theorem dX9_loads_18 : decode cX9_loads 18 = .ok (.getfield 75, 3) := by decide +kernel
theorem dX9_loads_2 : decode cX9_loads 2 = .ok (.iload_n 2, 1) := by decide +kernel
theorem dX9_loads_21 : decode cX9_loads 21 = .ok (.bipush 120, 2) := by decide +kernel
theorem dX9_loads_23 : decode cX9_loads 23 = .ok (.iload_n 1, 1) := by decide +kernel
theorem dX9_loads_24 : decode cX9_loads 24 = .ok (.imul, 1) := by decide +kernel
theorem dX9_loads_25 : decode cX9_loads 25 = .ok (.iload_n 2, 1) := by decide +kernel
theorem dX9_loads_26 : decode cX9_loads 26 = .ok (.iadd, 1) := by decide +kernel
theorem dX9_loads_27 : decode cX9_loads 27 = .ok (.iaload, 1) := by decide +kernel
theorem dX9_loads_28 : decode cX9_loads 28 = .ok (.iastore, 1) := by decide +kernel
theorem dX9_loads_29 : decode cX9_loads 29 = .ok (.iinc 2 1, 3) := by decide +kernel
theorem dX9_loads_3 : decode cX9_loads 3 = .ok (.aload_n 0, 1) := by decide +kernel
theorem dX9_loads_32 : decode cX9_loads 32 = .ok (.goto (-30), 3) := by decide +kernel
theorem dX9_loads_35 : decode cX9_loads 35 = .ok (.return_, 1) := by decide +kernel
theorem dX9_loads_4 : decode cX9_loads 4 = .ok (.getfield 78, 3) := by decide +kernel
theorem dX9_loads_7 : decode cX9_loads 7 = .ok (.iload_n 1, 1) := by decide +kernel
theorem dX9_loads_8 : decode cX9_loads 8 = .ok (.iaload, 1) := by decide +kernel
theorem dX9_loads_9 : decode cX9_loads 9 = .ok (.if_icmp .ge 26, 3) := by decide +kernel
theorem dX9_opens_0 : decode cX9_opens 0 = .ok (.aload_n 0, 1) := by decide +kernel
theorem dX9_opens_1 : decode cX9_opens 1 = .ok (.getfield 99, 3) := by decide +kernel
theorem dX9_opens_11 : decode cX9_opens 11 = .ok (.iload_n 1, 1) := by decide +kernel
theorem dX9_opens_12 : decode cX9_opens 12 = .ok (.iload_n 3, 1) := by decide +kernel
theorem dX9_opens_13 : decode cX9_opens 13 = .ok (.iastore, 1) := by decide +kernel
theorem dX9_opens_14 : decode cX9_opens 14 = .ok (.aload_n 0, 1) := by decide +kernel
theorem dX9_opens_15 : decode cX9_opens 15 = .ok (.getfield 105, 3) := by decide +kernel
theorem dX9_opens_18 : decode cX9_opens 18 = .ok (.iload_n 1, 1) := by decide +kernel
theorem dX9_opens_19 : decode cX9_opens 19 = .ok (.iload 4, 2) := by decide +kernel
theorem dX9_opens_21 : decode cX9_opens 21 = .ok (.iastore, 1) := by decide +kernel
theorem dX9_opens_22 : decode cX9_opens 22 = .ok (.aload_n 0, 1) := by decide +kernel
theorem dX9_opens_23 : decode cX9_opens 23 = .ok (.getfield 108, 3) := by decide +kernel
theorem dX9_opens_26 : decode cX9_opens 26 = .ok (.iload_n 1, 1) := by decide +kernel
theorem dX9_opens_27 : decode cX9_opens 27 = .ok (.iconst 0, 1) := by decide +kernel
theorem dX9_opens_28 : decode cX9_opens 28 = .ok (.iastore, 1) := by decide +kernel
theorem dX9_opens_29 : decode cX9_opens 29 = .ok (.aload_n 0, 1) := by decide +kernel
theorem dX9_opens_30 : decode cX9_opens 30 = .ok (.getfield 111, 3) := by decide +kernel
theorem dX9_opens_33 : decode cX9_opens 33 = .ok (.iload_n 1, 1) := by decide +kernel
theorem dX9_opens_34 : decode cX9_opens 34 = .ok (.iconst 0, 1) := by decide +kernel
theorem dX9_opens_35 : decode cX9_opens 35 = .ok (.iastore, 1) := by decide +kernel
theorem dX9_opens_36 : decode cX9_opens 36 = .ok (.return_, 1) := by decide +kernel
theorem dX9_opens_4 : decode cX9_opens 4 = .ok (.iload_n 1, 1) := by decide +kernel
theorem dX9_opens_5 : decode cX9_opens 5 = .ok (.iload_n 2, 1) := by decide +kernel
theorem dX9_opens_6 : decode cX9_opens 6 = .ok (.iastore, 1) := by decide +kernel
theorem dX9_opens_7 : decode cX9_opens 7 = .ok (.aload_n 0, 1) := by decide +kernel
theorem dX9_opens_8 : decode cX9_opens 8 = .ok (.getfield 102, 3) := by decide +kernel
theorem dX9_plain_0 : decode cX9_plain 0 = .ok (.aload_n 0, 1) := by decide +kernel
theorem dX9_plain_1 : decode cX9_plain 1 = .ok (.iload_n 1, 1) := by decide +kernel
theorem dX9_plain_10 : decode cX9_plain 10 = .ok (.iload_n 1, 1) := by decide +kernel
theorem dX9_plain_11 : decode cX9_plain 11 = .ok (.iload_n 2, 1) := by decide +kernel
theorem dX9_plain_12 : decode cX9_plain 12 = .ok (.invokevirtual 246, 3) := by decide +kernel
theorem dX9_plain_15 : decode cX9_plain 15 = .ok (.ifCond .eq 33, 3) := by decide +kernel
theorem dX9_plain_18 : decode cX9_plain 18 = .ok (.aload_n 0, 1) := by decide +kernel
theorem dX9_plain_19 : decode cX9_plain 19 = .ok (.getfield 13, 3) := by decide +kernel
theorem dX9_plain_2 : decode cX9_plain 2 = .ok (.iload_n 2, 1) := by decide +kernel
theorem dX9_plain_22 : decode cX9_plain 22 = .ok (.bipush 31, 2) := by decide +kernel
theorem dX9_plain_24 : decode cX9_plain 24 = .ok (.iload_n 1, 1) := by decide +kernel
theorem dX9_plain_25 : decode cX9_plain 25 = .ok (.imul, 1) := by decide +kernel
theorem dX9_plain_26 : decode cX9_plain 26 = .ok (.iload_n 2, 1) := by decide +kernel
theorem dX9_plain_27 : decode cX9_plain 27 = .ok (.iadd, 1) := by decide +kernel
theorem dX9_plain_28 : decode cX9_plain 28 = .ok (.iaload, 1) := by decide +kernel
theorem dX9_plain_29 : decode cX9_plain 29 = .ok (.bipush 6, 2) := by decide +kernel
theorem dX9_plain_3 : decode cX9_plain 3 = .ok (.invokevirtual 242, 3) := by decide +kernel
theorem dX9_plain_31 : decode cX9_plain 31 = .ok (.if_icmp .eq 17, 3) := by decide +kernel
theorem dX9_plain_34 : decode cX9_plain 34 = .ok (.aload_n 0, 1) := by decide +kernel
theorem dX9_plain_35 : decode cX9_plain 35 = .ok (.getfield 30, 3) := by decide +kernel
theorem dX9_plain_38 : decode cX9_plain 38 = .ok (.bipush 31, 2) := by decide +kernel
theorem dX9_plain_40 : decode cX9_plain 40 = .ok (.iload_n 1, 1) := by decide +kernel
theorem dX9_plain_41 : decode cX9_plain 41 = .ok (.imul, 1) := by decide +kernel
theorem dX9_plain_42 : decode cX9_plain 42 = .ok (.iload_n 2, 1) := by decide +kernel
theorem dX9_plain_43 : decode cX9_plain 43 = .ok (.iadd, 1) := by decide +kernel
theorem dX9_plain_44 : decode cX9_plain 44 = .ok (.laload, 1) := by decide +kernel
theorem dX9_plain_45 : decode cX9_plain 45 = .ok (.goto 4, 3) := by decide +kernel
theorem dX9_plain_48 : decode cX9_plain 48 = .ok (.lconst 0, 1) := by decide +kernel
theorem dX9_plain_49 : decode cX9_plain 49 = .ok (.lreturn, 1) := by decide +kernel
theorem dX9_plain_6 : decode cX9_plain 6 = .ok (.ifCond .eq 42, 3) := by decide +kernel
theorem dX9_plain_9 : decode cX9_plain 9 = .ok (.aload_n 0, 1) := by decide +kernel
theorem dX9_varint_0 : decode cX9_varint 0 = .ok (.aload_n 0, 1) := by decide +kernel
theorem dX9_varint_1 : decode cX9_varint 1 = .ok (.lconst 0, 1) := by decide +kernel
theorem dX9_varint_10 : decode cX9_varint 10 = .ok (.if_icmp .ge 84, 3) := by decide +kernel
theorem dX9_varint_13 : decode cX9_varint 13 = .ok (.iload_n 1, 1) := by decide +kernel
theorem dX9_varint_14 : decode cX9_varint 14 = .ok (.iload_n 3, 1) := by decide +kernel
theorem dX9_varint_15 : decode cX9_varint 15 = .ok (.iadd, 1) := by decide +kernel
theorem dX9_varint_16 : decode cX9_varint 16 = .ok (.iload_n 2, 1) := by decide +kernel
theorem dX9_varint_17 : decode cX9_varint 17 = .ok (.if_icmp .lt 5, 3) := by decide +kernel
theorem dX9_varint_2 : decode cX9_varint 2 = .ok (.putfield 252, 3) := by decide +kernel
theorem dX9_varint_20 : decode cX9_varint 20 = .ok (.iconst 0, 1) := by decide +kernel
theorem dX9_varint_21 : decode cX9_varint 21 = .ok (.ireturn, 1) := by decide +kernel
theorem dX9_varint_22 : decode cX9_varint 22 = .ok (.aload_n 0, 1) := by decide +kernel
theorem dX9_varint_23 : decode cX9_varint 23 = .ok (.getfield 81, 3) := by decide +kernel
theorem dX9_varint_26 : decode cX9_varint 26 = .ok (.iload_n 1, 1) := by decide +kernel
theorem dX9_varint_27 : decode cX9_varint 27 = .ok (.iload_n 3, 1) := by decide +kernel
theorem dX9_varint_28 : decode cX9_varint 28 = .ok (.iadd, 1) := by decide +kernel
theorem dX9_varint_29 : decode cX9_varint 29 = .ok (.iaload, 1) := by decide +kernel
theorem dX9_varint_30 : decode cX9_varint 30 = .ok (.i2l, 1) := by decide +kernel
theorem dX9_varint_31 : decode cX9_varint 31 = .ok (.lstore 4, 2) := by decide +kernel
theorem dX9_varint_33 : decode cX9_varint 33 = .ok (.iload_n 3, 1) := by decide +kernel
theorem dX9_varint_34 : decode cX9_varint 34 = .ok (.bipush 9, 2) := by decide +kernel
theorem dX9_varint_36 : decode cX9_varint 36 = .ok (.if_icmp .ne 12, 3) := by decide +kernel
theorem dX9_varint_39 : decode cX9_varint 39 = .ok (.lload 4, 2) := by decide +kernel
theorem dX9_varint_41 : decode cX9_varint 41 = .ok (.lconst 1, 1) := by decide +kernel
theorem dX9_varint_42 : decode cX9_varint 42 = .ok (.lcmp, 1) := by decide +kernel
theorem dX9_varint_43 : decode cX9_varint 43 = .ok (.ifCond .le 5, 3) := by decide +kernel
theorem dX9_varint_46 : decode cX9_varint 46 = .ok (.iconst 0, 1) := by decide +kernel
theorem dX9_varint_47 : decode cX9_varint 47 = .ok (.ireturn, 1) := by decide +kernel
theorem dX9_varint_48 : decode cX9_varint 48 = .ok (.aload_n 0, 1) := by decide +kernel
theorem dX9_varint_49 : decode cX9_varint 49 = .ok (.dup, 1) := by decide +kernel
theorem dX9_varint_5 : decode cX9_varint 5 = .ok (.iconst 0, 1) := by decide +kernel
theorem dX9_varint_50 : decode cX9_varint 50 = .ok (.getfield 252, 3) := by decide +kernel
theorem dX9_varint_53 : decode cX9_varint 53 = .ok (.lload 4, 2) := by decide +kernel
theorem dX9_varint_55 : decode cX9_varint 55 = .ok (.ldc2_w 217, 3) := by decide +kernel
theorem dX9_varint_58 : decode cX9_varint 58 = .ok (.land, 1) := by decide +kernel
theorem dX9_varint_59 : decode cX9_varint 59 = .ok (.bipush 7, 2) := by decide +kernel
theorem dX9_varint_6 : decode cX9_varint 6 = .ok (.istore_n 3, 1) := by decide +kernel
theorem dX9_varint_61 : decode cX9_varint 61 = .ok (.iload_n 3, 1) := by decide +kernel
theorem dX9_varint_62 : decode cX9_varint 62 = .ok (.imul, 1) := by decide +kernel
theorem dX9_varint_63 : decode cX9_varint 63 = .ok (.lshl, 1) := by decide +kernel
theorem dX9_varint_64 : decode cX9_varint 64 = .ok (.lor, 1) := by decide +kernel
theorem dX9_varint_65 : decode cX9_varint 65 = .ok (.putfield 252, 3) := by decide +kernel
theorem dX9_varint_68 : decode cX9_varint 68 = .ok (.lload 4, 2) := by decide +kernel
theorem dX9_varint_7 : decode cX9_varint 7 = .ok (.iload_n 3, 1) := by decide +kernel
theorem dX9_varint_70 : decode cX9_varint 70 = .ok (.ldc2_w 255, 3) := by decide +kernel
theorem dX9_varint_73 : decode cX9_varint 73 = .ok (.lcmp, 1) := by decide +kernel
theorem dX9_varint_74 : decode cX9_varint 74 = .ok (.ifCond .ge 14, 3) := by decide +kernel
theorem dX9_varint_77 : decode cX9_varint 77 = .ok (.aload_n 0, 1) := by decide +kernel
theorem dX9_varint_78 : decode cX9_varint 78 = .ok (.iload_n 1, 1) := by decide +kernel
theorem dX9_varint_79 : decode cX9_varint 79 = .ok (.iload_n 3, 1) := by decide +kernel
theorem dX9_varint_8 : decode cX9_varint 8 = .ok (.bipush 10, 2) := by decide +kernel
theorem dX9_varint_80 : decode cX9_varint 80 = .ok (.iadd, 1) := by decide +kernel
theorem dX9_varint_81 : decode cX9_varint 81 = .ok (.iconst 1, 1) := by decide +kernel
theorem dX9_varint_82 : decode cX9_varint 82 = .ok (.iadd, 1) := by decide +kernel
theorem dX9_varint_83 : decode cX9_varint 83 = .ok (.putfield 257, 3) := by decide +kernel
theorem dX9_varint_86 : decode cX9_varint 86 = .ok (.iconst 1, 1) := by decide +kernel
theorem dX9_varint_87 : decode cX9_varint 87 = .ok (.ireturn, 1) := by decide +kernel
theorem dX9_varint_88 : decode cX9_varint 88 = .ok (.iinc 3 1, 3) := by decide +kernel
theorem dX9_varint_91 : decode cX9_varint 91 = .ok (.goto (-84), 3) := by decide +kernel
theorem dX9_varint_94 : decode cX9_varint 94 = .ok (.iconst 0, 1) := by decide +kernel
theorem dX9_varint_95 : decode cX9_varint 95 = .ok (.ireturn, 1) := by decide +kernel
noncomputable def x9_isMake (p0 : Int32) (st : RS) : Option (Int32 × RS) := pif (p0 < 0) (some ((0 : Int32), st)) (pif (8 ≤ p0) (some ((0 : Int32), st)) (gd (vp_in p0 8) (pif ((gF st 0 p0.toNatClampNeg) = 0) (some ((0 : Int32), st)) (some ((1 : Int32), st)))))
def wq_X9_isMake : List Cond := .code yX9_isMake cX9_isMake 2 (some .boolean) :: (([.fieldLink RX9 7 "RecordBenchModel" "told" "[Z"] : List Cond) ++ wsX90)
set_option maxHeartbeats 4000000 in
set_option maxRecDepth 100000 in
theorem c_X9_isMake (l : Launch) (dC : Nat → ClassId) (dI : Nat → Nat → Nat) (h0 : Nat) (ar : Nat → Nat) (ca : Nat → ClassId) (p0 : Int32) (st st' : RS) (r : Int32) (hf : x9_isMake p0 st = some (r, st')) (sz : Nat) : Met l yX9_isMake wq_X9_isMake ({ frames := 0, cells := 0, slots := 0, locals := 0 }) (va_Pc [.ref h0, .int p0] (Pr (dC, dI) (rT ca) [] (RW h0 ar ca st) sz)) (va_Qi (fun r' (_ : Unit) => r' = r) (Bq (dC, dI) (fun _ => RW h0 ar ca st') (fun _ => []) (va_A (RW h0 ar ca st) sz)) (va_A (RW h0 ar ca st) sz)) 0 0 (va_A (RW h0 ar ca st) sz) := by
  refine Met.ofW (cc := cX9_isMake) (maxL := 2) (ret := (some .boolean)) (by decide) rfl ?_
  intro p e s m args below meth c s₁ B hml hv
  obtain ⟨rfl, hsz, hP, hK, hD0, hN, hZ, hR⟩ := hv
  have hx := B.exec
  have hb := B.bytes
  have hr := B.returns
  have hts := atoms_spec (ws := wq_X9_isMake) B.pre
  have hown : s.vm.findClass RX9 = some m.cls := findClass_of_methodNamed B.named
  have iRX9 : ∀ w ∈ u_ws RX9 TX9 60, w ∈ wq_X9_isMake := fun w h => List.mem_cons_of_mem _ (List.mem_append_right _ h)
  subst hsz
  have hp : Rp (dC, dI) h0 ar ca (va_A (RW h0 ar ca st) s.heap.size) s.heap st s.heap [] := ⟨hP, hD0.self, va_S.rf⟩
  generalize hAe : va_A (RW h0 ar ca st) s.heap.size = A at hp hZ ⊢
  have hA : ∀ q : Nat, s.heap.size ≤ q → A q := fun q h => by rw [← hAe]; exact Or.inr h
  have hl := lv_entry ([.ref h0, .int p0]) (n := 2) (Nat.le_of_ble_eq_true rfl)
  rw [lg_entry_eq]
  generalize (lg_sl ([.ref h0, .int p0]) ++ List.replicate (2 - (lg_sl ([.ref h0, .int p0])).length) Slot.unset).toArray = ls at hl ⊢
  have hl : lv_has ls 2 [(0, .ref h0), (1, .int p0)] := hl
  unfold x9_isMake at hf
  refine lv_iload_n hx hb dX9_isMake_0 rfl (lv_at hl 1 rfl) ?_
  refine lv_if_lt (tgt := 23) hx hb dX9_isMake_1 (by decide) (fun c_1 => ?_) (fun c_1 => ?_)
  · have hf := pif_t c_1 hf
    refine lv_iconst (v := 0) hx hb dX9_isMake_23 (by decide) ?_
    obtain ⟨e1, e2⟩ := pr_some hf
    exact W.zret (v := 0) hx hb hr rfl (fun t ht hW => ⟨⟨0, (), rfl, e1, Rp.end e2 hp hK ht hW⟩, hp.2.2.F ht⟩) hp.2.2.2.2 dX9_isMake_24
  · have hf := pif_f c_1 hf
    refine lv_iload_n hx hb dX9_isMake_4 rfl (lv_at hl 1 rfl) ?_
    refine lv_bipush (v := 8) hx hb dX9_isMake_5 (by decide) ?_
    refine lv_icmp_ge (tgt := 23) hx hb dX9_isMake_7 (by decide) (fun c_2 => ?_) (fun c_2 => ?_)
    · have hf := pif_t c_2 hf
      refine lv_iconst (v := 0) hx hb dX9_isMake_23 (by decide) ?_
      obtain ⟨e1, e2⟩ := pr_some hf
      exact W.zret (v := 0) hx hb hr rfl (fun t ht hW => ⟨⟨0, (), rfl, e1, Rp.end e2 hp hK ht hW⟩, hp.2.2.F ht⟩) hp.2.2.2.2 dX9_isMake_24
    · have hf := pif_f c_2 hf
      refine lv_aload_n hx hb dX9_isMake_10 rfl (lv_at hl 0 rfl) ?_
      refine r_ga hx hb hts iRX9 hown hK hp 0 (by decide) (by decide) (hts (.fieldLink RX9 7 "RecordBenchModel" "told" "[Z") (by decide +kernel)) dX9_isMake_11 ?_
      refine lv_iload_n hx hb dX9_isMake_14 rfl (lv_at hl 1 rfl) ?_
      obtain ⟨g_3, hf⟩ := gd_some hf
      refine r_az (n := 8) hx hb hK hp 0 0 rfl rfl rfl g_3 dX9_isMake_15 ?_
      refine lv_if_eq (tgt := 23) hx hb dX9_isMake_16 (by decide) (fun c_4 => ?_) (fun c_4 => ?_)
      · have hf := pif_t c_4 hf
        refine lv_iconst (v := 0) hx hb dX9_isMake_23 (by decide) ?_
        obtain ⟨e1, e2⟩ := pr_some hf
        exact W.zret (v := 0) hx hb hr rfl (fun t ht hW => ⟨⟨0, (), rfl, e1, Rp.end e2 hp hK ht hW⟩, hp.2.2.F ht⟩) hp.2.2.2.2 dX9_isMake_24
      · have hf := pif_f c_4 hf
        refine lv_iconst (v := 1) hx hb dX9_isMake_19 (by decide) ?_
        refine lv_goto (tgt := 24) hx hb dX9_isMake_20 (by decide) ?_
        obtain ⟨e1, e2⟩ := pr_some hf
        exact W.zret (v := 1) hx hb hr rfl (fun t ht hW => ⟨⟨1, (), rfl, e1, Rp.end e2 hp hK ht hW⟩, hp.2.2.F ht⟩) hp.2.2.2.2 dX9_isMake_24
noncomputable def x9_has (p0 : Int32) (p1 : Int32) (st : RS) : Option (Int32 × RS) := pif (p1 ≤ 0) (some ((0 : Int32), st)) (pif (31 ≤ p1) (some ((0 : Int32), st)) (gd (vp_in ((31 * p0) + p1) 248) (pif ((gF st 8 ((31 * p0) + p1).toNatClampNeg) = 0) (some ((0 : Int32), st)) (gd (vp_in ((31 * p0) + p1) 248) (pif ((gF st 1 ((31 * p0) + p1).toNatClampNeg) = 0) (some ((0 : Int32), st)) (some ((1 : Int32), st)))))))
def wq_X9_has : List Cond := .code yX9_has cX9_has 3 (some .boolean) :: (([.fieldLink RX9 36 "RecordBenchModel" "isThere" "[Z", .fieldLink RX9 13 "RecordBenchModel" "kind" "[I"] : List Cond) ++ wsX90)
set_option maxHeartbeats 4000000 in
set_option maxRecDepth 100000 in
theorem c_X9_has (l : Launch) (dC : Nat → ClassId) (dI : Nat → Nat → Nat) (h0 : Nat) (ar : Nat → Nat) (ca : Nat → ClassId) (p0 : Int32) (p1 : Int32) (st st' : RS) (r : Int32) (hf : x9_has p0 p1 st = some (r, st')) (sz : Nat) : Met l yX9_has wq_X9_has ({ frames := 0, cells := 0, slots := 0, locals := 0 }) (va_Pc [.ref h0, .int p0, .int p1] (Pr (dC, dI) (rT ca) [] (RW h0 ar ca st) sz)) (va_Qi (fun r' (_ : Unit) => r' = r) (Bq (dC, dI) (fun _ => RW h0 ar ca st') (fun _ => []) (va_A (RW h0 ar ca st) sz)) (va_A (RW h0 ar ca st) sz)) 0 0 (va_A (RW h0 ar ca st) sz) := by
  refine Met.ofW (cc := cX9_has) (maxL := 3) (ret := (some .boolean)) (by decide) rfl ?_
  intro p e s m args below meth c s₁ B hml hv
  obtain ⟨rfl, hsz, hP, hK, hD0, hN, hZ, hR⟩ := hv
  have hx := B.exec
  have hb := B.bytes
  have hr := B.returns
  have hts := atoms_spec (ws := wq_X9_has) B.pre
  have hown : s.vm.findClass RX9 = some m.cls := findClass_of_methodNamed B.named
  have iRX9 : ∀ w ∈ u_ws RX9 TX9 60, w ∈ wq_X9_has := fun w h => List.mem_cons_of_mem _ (List.mem_append_right _ h)
  subst hsz
  have hp : Rp (dC, dI) h0 ar ca (va_A (RW h0 ar ca st) s.heap.size) s.heap st s.heap [] := ⟨hP, hD0.self, va_S.rf⟩
  generalize hAe : va_A (RW h0 ar ca st) s.heap.size = A at hp hZ ⊢
  have hA : ∀ q : Nat, s.heap.size ≤ q → A q := fun q h => by rw [← hAe]; exact Or.inr h
  have hl := lv_entry ([.ref h0, .int p0, .int p1]) (n := 3) (Nat.le_of_ble_eq_true rfl)
  rw [lg_entry_eq]
  generalize (lg_sl ([.ref h0, .int p0, .int p1]) ++ List.replicate (3 - (lg_sl ([.ref h0, .int p0, .int p1])).length) Slot.unset).toArray = ls at hl ⊢
  have hl : lv_has ls 3 [(0, .ref h0), (1, .int p0), (2, .int p1)] := hl
  unfold x9_has at hf
  refine lv_iload_n hx hb dX9_has_0 rfl (lv_at hl 2 rfl) ?_
  refine lv_if_le (tgt := 42) hx hb dX9_has_1 (by decide) (fun c_1 => ?_) (fun c_1 => ?_)
  · have hf := pif_t c_1 hf
    refine lv_iconst (v := 0) hx hb dX9_has_42 (by decide) ?_
    obtain ⟨e1, e2⟩ := pr_some hf
    exact W.zret (v := 0) hx hb hr rfl (fun t ht hW => ⟨⟨0, (), rfl, e1, Rp.end e2 hp hK ht hW⟩, hp.2.2.F ht⟩) hp.2.2.2.2 dX9_has_43
  · have hf := pif_f c_1 hf
    refine lv_iload_n hx hb dX9_has_4 rfl (lv_at hl 2 rfl) ?_
    refine lv_bipush (v := 31) hx hb dX9_has_5 (by decide) ?_
    refine lv_icmp_ge (tgt := 42) hx hb dX9_has_7 (by decide) (fun c_2 => ?_) (fun c_2 => ?_)
    · have hf := pif_t c_2 hf
      refine lv_iconst (v := 0) hx hb dX9_has_42 (by decide) ?_
      obtain ⟨e1, e2⟩ := pr_some hf
      exact W.zret (v := 0) hx hb hr rfl (fun t ht hW => ⟨⟨0, (), rfl, e1, Rp.end e2 hp hK ht hW⟩, hp.2.2.F ht⟩) hp.2.2.2.2 dX9_has_43
    · have hf := pif_f c_2 hf
      refine lv_aload_n hx hb dX9_has_10 rfl (lv_at hl 0 rfl) ?_
      refine r_ga hx hb hts iRX9 hown hK hp 8 (by decide) (by decide) (hts (.fieldLink RX9 36 "RecordBenchModel" "isThere" "[Z") (by decide +kernel)) dX9_has_11 ?_
      refine lv_bipush (v := 31) hx hb dX9_has_14 (by decide) ?_
      refine lv_iload_n hx hb dX9_has_16 rfl (lv_at hl 1 rfl) ?_
      refine lv_imul hx hb dX9_has_17 ?_
      refine lv_iload_n hx hb dX9_has_18 rfl (lv_at hl 2 rfl) ?_
      refine lv_iadd hx hb dX9_has_19 ?_
      obtain ⟨g_3, hf⟩ := gd_some hf
      refine r_az (n := 248) hx hb hK hp 8 8 rfl rfl rfl g_3 dX9_has_20 ?_
      refine lv_if_eq (tgt := 42) hx hb dX9_has_21 (by decide) (fun c_4 => ?_) (fun c_4 => ?_)
      · have hf := pif_t c_4 hf
        refine lv_iconst (v := 0) hx hb dX9_has_42 (by decide) ?_
        obtain ⟨e1, e2⟩ := pr_some hf
        exact W.zret (v := 0) hx hb hr rfl (fun t ht hW => ⟨⟨0, (), rfl, e1, Rp.end e2 hp hK ht hW⟩, hp.2.2.F ht⟩) hp.2.2.2.2 dX9_has_43
      · have hf := pif_f c_4 hf
        refine lv_aload_n hx hb dX9_has_24 rfl (lv_at hl 0 rfl) ?_
        refine r_ga hx hb hts iRX9 hown hK hp 1 (by decide) (by decide) (hts (.fieldLink RX9 13 "RecordBenchModel" "kind" "[I") (by decide +kernel)) dX9_has_25 ?_
        refine lv_bipush (v := 31) hx hb dX9_has_28 (by decide) ?_
        refine lv_iload_n hx hb dX9_has_30 rfl (lv_at hl 1 rfl) ?_
        refine lv_imul hx hb dX9_has_31 ?_
        refine lv_iload_n hx hb dX9_has_32 rfl (lv_at hl 2 rfl) ?_
        refine lv_iadd hx hb dX9_has_33 ?_
        obtain ⟨g_5, hf⟩ := gd_some hf
        refine r_ai (n := 248) hx hb hK hp 1 1 rfl rfl rfl g_5 dX9_has_34 ?_
        refine lv_if_eq (tgt := 42) hx hb dX9_has_35 (by decide) (fun c_6 => ?_) (fun c_6 => ?_)
        · have hf := pif_t c_6 hf
          refine lv_iconst (v := 0) hx hb dX9_has_42 (by decide) ?_
          obtain ⟨e1, e2⟩ := pr_some hf
          exact W.zret (v := 0) hx hb hr rfl (fun t ht hW => ⟨⟨0, (), rfl, e1, Rp.end e2 hp hK ht hW⟩, hp.2.2.F ht⟩) hp.2.2.2.2 dX9_has_43
        · have hf := pif_f c_6 hf
          refine lv_iconst (v := 1) hx hb dX9_has_38 (by decide) ?_
          refine lv_goto (tgt := 43) hx hb dX9_has_39 (by decide) ?_
          obtain ⟨e1, e2⟩ := pr_some hf
          exact W.zret (v := 1) hx hb hr rfl (fun t ht hW => ⟨⟨1, (), rfl, e1, Rp.end e2 hp hK ht hW⟩, hp.2.2.F ht⟩) hp.2.2.2.2 dX9_has_43
noncomputable def x9_feed_71 (k18 : Int32 → Int32 → Int32 → Int32 → Int32 → Int32 → RS → Option (Int32 × RS)) (l1 : Int32) (l2 : Int32) (l3 : Int32) (l4 : Int32) (l5 : Int32) (l6 : Int32) (s0 : Int32) (st : RS) : Option (Int32 × RS) := gd (vp_in (gI st 10) 400) (nam (sF st 9 (upd (gF st 9) (gI st 10).toNatClampNeg ((s0 >>> ((8 * (3 - (l6 - l6 / 4 * 4))) &&& 31)) &&& 255))) (fun st_2 => nam (sI st_2 10 ((gI st_2 10) + 1)) (fun st_3 => nam (l6 + 1) (fun v_4 => k18 l1 l2 l3 l4 l5 v_4 st_3))))
noncomputable def x9_feed_18  : Nat → Int32 → Int32 → Int32 → Int32 → Int32 → Int32 → RS → Option (Int32 × RS)
  | 0 => fun _ _ _ _ _ _ _ => none
  | n + 1 => fun l1 l2 l3 l4 l5 l6 st => pif (20 ≤ l6) (some (gI st 10, st)) (pif (4 ≤ l6) (pif (8 ≤ l6) (pif (12 ≤ l6) (pif (16 ≤ l6) (x9_feed_71 (x9_feed_18 n) l1 l2 l3 l4 l5 l6 l5 st) (x9_feed_71 (x9_feed_18 n) l1 l2 l3 l4 l5 l6 l4 st)) (x9_feed_71 (x9_feed_18 n) l1 l2 l3 l4 l5 l6 l3 st)) (x9_feed_71 (x9_feed_18 n) l1 l2 l3 l4 l5 l6 l2 st)) (x9_feed_71 (x9_feed_18 n) l1 l2 l3 l4 l5 l6 l1 st))
theorem x9_feed_18_z  (l1 : Int32) (l2 : Int32) (l3 : Int32) (l4 : Int32) (l5 : Int32) (l6 : Int32) (st : RS) : x9_feed_18  0 l1 l2 l3 l4 l5 l6 st = none := rfl
theorem x9_feed_18_s  (n : Nat) (l1 : Int32) (l2 : Int32) (l3 : Int32) (l4 : Int32) (l5 : Int32) (l6 : Int32) (st : RS) : x9_feed_18  (n + 1) l1 l2 l3 l4 l5 l6 st = pif (20 ≤ l6) (some (gI st 10, st)) (pif (4 ≤ l6) (pif (8 ≤ l6) (pif (12 ≤ l6) (pif (16 ≤ l6) (x9_feed_71 (x9_feed_18 n) l1 l2 l3 l4 l5 l6 l5 st) (x9_feed_71 (x9_feed_18 n) l1 l2 l3 l4 l5 l6 l4 st)) (x9_feed_71 (x9_feed_18 n) l1 l2 l3 l4 l5 l6 l3 st)) (x9_feed_71 (x9_feed_18 n) l1 l2 l3 l4 l5 l6 l2 st)) (x9_feed_71 (x9_feed_18 n) l1 l2 l3 l4 l5 l6 l1 st)) := rfl
noncomputable def x9_feed (p0 : Int32) (p1 : Int32) (p2 : Int32) (p3 : Int32) (p4 : Int32) (st : RS) : Option (Int32 × RS) := pif (((gI st 10) + 20) ≤ 400) (x9_feed_18  fuel p0 p1 p2 p3 p4 0 st) (some (((-1) : Int32), st))
def wq_X9_feed : List Cond := .code yX9_feed cX9_feed 8 (some .int) :: (([.fieldLink RX9 132 "RecordBenchModel" "taped" "I", .fieldLink RX9 39 "RecordBenchModel" "tape" "[I"] : List Cond) ++ wsX90)
set_option maxHeartbeats 4000000 in
set_option maxRecDepth 100000 in
theorem c_X9_feed (l : Launch) (dC : Nat → ClassId) (dI : Nat → Nat → Nat) (h0 : Nat) (ar : Nat → Nat) (ca : Nat → ClassId) (p0 : Int32) (p1 : Int32) (p2 : Int32) (p3 : Int32) (p4 : Int32) (st st' : RS) (r : Int32) (hf : x9_feed p0 p1 p2 p3 p4 st = some (r, st')) (sz : Nat) : Met l yX9_feed wq_X9_feed ({ frames := 0, cells := 0, slots := 0, locals := 0 }) (va_Pc [.ref h0, .int p0, .int p1, .int p2, .int p3, .int p4] (Pr (dC, dI) (rT ca) [] (RW h0 ar ca st) sz)) (va_Qi (fun r' (_ : Unit) => r' = r) (Bq (dC, dI) (fun _ => RW h0 ar ca st') (fun _ => []) (va_A (RW h0 ar ca st) sz)) (va_A (RW h0 ar ca st) sz)) 0 0 (va_A (RW h0 ar ca st) sz) := by
  refine Met.ofW (cc := cX9_feed) (maxL := 8) (ret := (some .int)) (by decide) rfl ?_
  intro p e s m args below meth c s₁ B hml hv
  obtain ⟨rfl, hsz, hP, hK, hD0, hN, hZ, hR⟩ := hv
  have hx := B.exec
  have hb := B.bytes
  have hr := B.returns
  have hts := atoms_spec (ws := wq_X9_feed) B.pre
  have hown : s.vm.findClass RX9 = some m.cls := findClass_of_methodNamed B.named
  have iRX9 : ∀ w ∈ u_ws RX9 TX9 60, w ∈ wq_X9_feed := fun w h => List.mem_cons_of_mem _ (List.mem_append_right _ h)
  subst hsz
  have hp : Rp (dC, dI) h0 ar ca (va_A (RW h0 ar ca st) s.heap.size) s.heap st s.heap [] := ⟨hP, hD0.self, va_S.rf⟩
  generalize hAe : va_A (RW h0 ar ca st) s.heap.size = A at hp hZ ⊢
  have hA : ∀ q : Nat, s.heap.size ≤ q → A q := fun q h => by rw [← hAe]; exact Or.inr h
  have hl := lv_entry ([.ref h0, .int p0, .int p1, .int p2, .int p3, .int p4]) (n := 8) (Nat.le_of_ble_eq_true rfl)
  rw [lg_entry_eq]
  generalize (lg_sl ([.ref h0, .int p0, .int p1, .int p2, .int p3, .int p4]) ++ List.replicate (8 - (lg_sl ([.ref h0, .int p0, .int p1, .int p2, .int p3, .int p4])).length) Slot.unset).toArray = ls at hl ⊢
  have hl : lv_has ls 8 [(0, .ref h0), (1, .int p0), (2, .int p1), (3, .int p2), (4, .int p3), (5, .int p4)] := hl
  refine W_lp (fun n18 (u : Int32 × Int32 × Int32 × Int32 × Int32 × Int32 × RS) H locs ls => match u with | (l1, l2, l3, l4, l5, l6, st) => x9_feed_18 n18 l1 l2 l3 l4 l5 l6 st = some (r, st') ∧ Rp (dC, dI) h0 ar ca A s.heap st H locs ∧ lv_has ls 8 [(0, .ref h0), (1, .int l1), (2, .int l2), (3, .int l3), (4, .int l4), (5, .int l5), (6, .int l6)]) (fun (u : Int32 × Int32 × Int32 × Int32 × Int32 × Int32 × RS) ls => match u with | (l1, l2, l3, l4, l5, l6, st) => F0 m 18 ls []) ?_ ?_ (fun J18 => ?_)
  · intro u H locs ls hu
    obtain ⟨l1, l2, l3, l4, l5, l6, st⟩ := u
    obtain ⟨hf, hp, hl⟩ := hu
    rw [x9_feed_18_z] at hf
    cases hf
  · intro n18 ih18 u H locs ls hu
    obtain ⟨l1, l2, l3, l4, l5, l6, st⟩ := u
    obtain ⟨hf, hp, hl⟩ := hu
    show W p l e _ s m _ below meth c _ _ _ _ _ (F0 m 18 ls [])
    refine W_blk (fun (u : Int32 × Int32 × Int32 × Int32 × Int32 × Int32 × Int32 × RS) H locs ls => match u with | (l1, l2, l3, l4, l5, l6, s0, st) => x9_feed_71 (x9_feed_18 n18) l1 l2 l3 l4 l5 l6 s0 st = some (r, st') ∧ Rp (dC, dI) h0 ar ca A s.heap st H locs ∧ lv_has ls 8 [(0, .ref h0), (1, .int l1), (2, .int l2), (3, .int l3), (4, .int l4), (5, .int l5), (6, .int l6)]) (fun (u : Int32 × Int32 × Int32 × Int32 × Int32 × Int32 × Int32 × RS) ls => match u with | (l1, l2, l3, l4, l5, l6, s0, st) => F0 m 71 ls [.int s0]) ?_ (fun J71 => ?_)
    · intro u H locs ls hu
      obtain ⟨l1, l2, l3, l4, l5, l6, s0, st⟩ := u
      obtain ⟨hf, hp, hl⟩ := hu
      show W p l e _ s m _ below meth c _ _ _ _ _ (F0 m 71 ls [.int s0])
      unfold x9_feed_71 at hf
      refine lv_istore (lv' := [(7, .int s0), (0, .ref h0), (1, .int l1), (2, .int l2), (3, .int l3), (4, .int l4), (5, .int l5), (6, .int l6)]) hx hb dX9_feed_71 hl (by decide) rfl (fun ls hl => ?_)
      refine lv_aload_n hx hb dX9_feed_73 rfl (lv_at hl 1 rfl) ?_
      refine r_ga hx hb hts iRX9 hown hK hp 9 (by decide) (by decide) (hts (.fieldLink RX9 39 "RecordBenchModel" "tape" "[I") (by decide +kernel)) dX9_feed_74 ?_
      refine lv_aload_n hx hb dX9_feed_77 rfl (lv_at hl 1 rfl) ?_
      refine r_gi hx hb hts iRX9 hown hK hp 10 (by decide) rfl (hts (.fieldLink RX9 132 "RecordBenchModel" "taped" "I") (by decide +kernel)) dX9_feed_78 ?_
      refine lv_iload hx hb dX9_feed_81 (lv_at hl 0 rfl) ?_
      refine lv_bipush (v := 8) hx hb dX9_feed_83 (by decide) ?_
      refine lv_iconst (v := 3) hx hb dX9_feed_85 (by decide) ?_
      refine lv_iload hx hb dX9_feed_86 (lv_at hl 7 rfl) ?_
      refine lv_iconst (v := 4) hx hb dX9_feed_88 (by decide) ?_
      refine lv_irem hx hb dX9_feed_89 (by decide) ?_
      refine lv_isub hx hb dX9_feed_90 ?_
      refine lv_imul hx hb dX9_feed_91 ?_
      refine lv_ishr hx hb dX9_feed_92 ?_
      refine lv_sipush (v := 255) hx hb dX9_feed_93 (by decide) ?_
      refine lv_iand hx hb dX9_feed_96 ?_
      obtain ⟨g_1, hf⟩ := gd_some hf
      refine r_si (n := 400) hx hb hK hp 9 9 rfl rfl rfl g_1 dX9_feed_97 (fun H locs hp => ?_)
      obtain ⟨st_2, est_2, hf⟩ := nam_some hf
      rw [← est_2] at hp
      refine lv_aload_n hx hb dX9_feed_98 rfl (lv_at hl 1 rfl) ?_
      refine lv_dup hx hb dX9_feed_99 rfl ?_
      refine r_gi hx hb hts iRX9 hown hK hp 10 (by decide) rfl (hts (.fieldLink RX9 132 "RecordBenchModel" "taped" "I") (by decide +kernel)) dX9_feed_100 ?_
      refine lv_iconst (v := 1) hx hb dX9_feed_103 (by decide) ?_
      refine lv_iadd hx hb dX9_feed_104 ?_
      refine r_pi (v := (gI st_2 10) + 1) (ty := .int) hx hb hts iRX9 hown hK hp 10 (by decide) rfl (hts (.fieldLink RX9 132 "RecordBenchModel" "taped" "I") (by decide +kernel)) rfl (by decide +kernel) rfl rfl dX9_feed_105 (fun H locs hp => ?_)
      obtain ⟨st_3, est_3, hf⟩ := nam_some hf
      rw [← est_3] at hp
      obtain ⟨v_4, ev_4, hf⟩ := nam_some hf
      refine lv_iinc (v := v_4) (lv' := [(6, .int v_4), (7, .int s0), (0, .ref h0), (1, .int l1), (2, .int l2), (3, .int l3), (4, .int l4), (5, .int l5)]) hx hb dX9_feed_108 hl (k := 7) rfl ev_4.symm (by decide) rfl (fun ls hl => ?_)
      refine lv_goto (tgt := 18) hx hb dX9_feed_111 (by decide) ?_
      exact ih18 (l1, l2, l3, l4, l5, v_4, st_3) _ _ _ ⟨hf, hp, (lv_sub hl [2, 3, 4, 5, 6, 7, 0] rfl)⟩
    rw [x9_feed_18_s] at hf
    refine lv_iload hx hb dX9_feed_18 (lv_at hl 6 rfl) ?_
    refine lv_bipush (v := 20) hx hb dX9_feed_20 (by decide) ?_
    refine lv_icmp_ge (tgt := 114) hx hb dX9_feed_22 (by decide) (fun c_5 => ?_) (fun c_5 => ?_)
    · have hf := pif_t c_5 hf
      refine lv_aload_n hx hb dX9_feed_114 rfl (lv_at hl 0 rfl) ?_
      refine r_gi hx hb hts iRX9 hown hK hp 10 (by decide) rfl (hts (.fieldLink RX9 132 "RecordBenchModel" "taped" "I") (by decide +kernel)) dX9_feed_115 ?_
      obtain ⟨e1, e2⟩ := pr_some hf
      exact W.iret (v := gI st 10) hx hb hr (fun t ht hW => ⟨⟨gI st 10, (), rfl, e1, Rp.end e2 hp hK ht hW⟩, hp.2.2.F ht⟩) hp.2.2.2.2 dX9_feed_118
    · have hf := pif_f c_5 hf
      refine lv_iload hx hb dX9_feed_25 (lv_at hl 6 rfl) ?_
      refine lv_iconst (v := 4) hx hb dX9_feed_27 (by decide) ?_
      refine lv_icmp_ge (tgt := 35) hx hb dX9_feed_28 (by decide) (fun c_6 => ?_) (fun c_6 => ?_)
      · have hf := pif_t c_6 hf
        refine lv_iload hx hb dX9_feed_35 (lv_at hl 6 rfl) ?_
        refine lv_bipush (v := 8) hx hb dX9_feed_37 (by decide) ?_
        refine lv_icmp_ge (tgt := 46) hx hb dX9_feed_39 (by decide) (fun c_7 => ?_) (fun c_7 => ?_)
        · have hf := pif_t c_7 hf
          refine lv_iload hx hb dX9_feed_46 (lv_at hl 6 rfl) ?_
          refine lv_bipush (v := 12) hx hb dX9_feed_48 (by decide) ?_
          refine lv_icmp_ge (tgt := 57) hx hb dX9_feed_50 (by decide) (fun c_8 => ?_) (fun c_8 => ?_)
          · have hf := pif_t c_8 hf
            refine lv_iload hx hb dX9_feed_57 (lv_at hl 6 rfl) ?_
            refine lv_bipush (v := 16) hx hb dX9_feed_59 (by decide) ?_
            refine lv_icmp_ge (tgt := 69) hx hb dX9_feed_61 (by decide) (fun c_9 => ?_) (fun c_9 => ?_)
            · have hf := pif_t c_9 hf
              refine lv_iload hx hb dX9_feed_69 (lv_at hl 5 rfl) ?_
              exact J71 (l1, l2, l3, l4, l5, l6, l5, st) _ _ _ ⟨hf, hp, (lv_sub hl [0, 1, 2, 3, 4, 5, 6] rfl)⟩
            · have hf := pif_f c_9 hf
              refine lv_iload hx hb dX9_feed_64 (lv_at hl 4 rfl) ?_
              refine lv_goto (tgt := 71) hx hb dX9_feed_66 (by decide) ?_
              exact J71 (l1, l2, l3, l4, l5, l6, l4, st) _ _ _ ⟨hf, hp, (lv_sub hl [0, 1, 2, 3, 4, 5, 6] rfl)⟩
          · have hf := pif_f c_8 hf
            refine lv_iload_n hx hb dX9_feed_53 rfl (lv_at hl 3 rfl) ?_
            refine lv_goto (tgt := 71) hx hb dX9_feed_54 (by decide) ?_
            exact J71 (l1, l2, l3, l4, l5, l6, l3, st) _ _ _ ⟨hf, hp, (lv_sub hl [0, 1, 2, 3, 4, 5, 6] rfl)⟩
        · have hf := pif_f c_7 hf
          refine lv_iload_n hx hb dX9_feed_42 rfl (lv_at hl 2 rfl) ?_
          refine lv_goto (tgt := 71) hx hb dX9_feed_43 (by decide) ?_
          exact J71 (l1, l2, l3, l4, l5, l6, l2, st) _ _ _ ⟨hf, hp, (lv_sub hl [0, 1, 2, 3, 4, 5, 6] rfl)⟩
      · have hf := pif_f c_6 hf
        refine lv_iload_n hx hb dX9_feed_31 rfl (lv_at hl 1 rfl) ?_
        refine lv_goto (tgt := 71) hx hb dX9_feed_32 (by decide) ?_
        exact J71 (l1, l2, l3, l4, l5, l6, l1, st) _ _ _ ⟨hf, hp, (lv_sub hl [0, 1, 2, 3, 4, 5, 6] rfl)⟩
  unfold x9_feed at hf
  refine lv_aload_n hx hb dX9_feed_0 rfl (lv_at hl 0 rfl) ?_
  refine r_gi hx hb hts iRX9 hown hK hp 10 (by decide) rfl (hts (.fieldLink RX9 132 "RecordBenchModel" "taped" "I") (by decide +kernel)) dX9_feed_1 ?_
  refine lv_bipush (v := 20) hx hb dX9_feed_4 (by decide) ?_
  refine lv_iadd hx hb dX9_feed_6 ?_
  refine lv_sipush (v := 400) hx hb dX9_feed_7 (by decide) ?_
  refine lv_icmp_le (tgt := 15) hx hb dX9_feed_10 (by decide) (fun c_10 => ?_) (fun c_10 => ?_)
  · have hf := pif_t c_10 hf
    refine lv_iconst (v := 0) hx hb dX9_feed_15 (by decide) ?_
    refine lv_istore (lv' := [(6, .int 0), (0, .ref h0), (1, .int p0), (2, .int p1), (3, .int p2), (4, .int p3), (5, .int p4)]) hx hb dX9_feed_16 hl (by decide) rfl (fun ls hl => ?_)
    exact J18 fuel (p0, p1, p2, p3, p4, 0, st) _ _ _ ⟨hf, hp, (lv_sub hl [1, 2, 3, 4, 5, 6, 0] rfl)⟩
  · have hf := pif_f c_10 hf
    refine lv_iconst (v := (-1)) hx hb dX9_feed_13 (by decide) ?_
    obtain ⟨e1, e2⟩ := pr_some hf
    exact W.iret (v := (-1)) hx hb hr (fun t ht hW => ⟨⟨(-1), (), rfl, e1, Rp.end e2 hp hK ht hW⟩, hp.2.2.F ht⟩) hp.2.2.2.2 dX9_feed_14
noncomputable def x9_end (p0 : Int32) (st : RS) : Option (Int32 × RS) := pif (p0 < 0) (some ((0 : Int32), st)) (pif (p0 ≤ (gI st 10)) (nam (sI st 10 p0) (fun st_3 => some ((1 : Int32), st_3))) (some ((0 : Int32), st)))
def wq_X9_end : List Cond := .code yX9_end cX9_end 2 (some .boolean) :: (([.fieldLink RX9 132 "RecordBenchModel" "taped" "I"] : List Cond) ++ wsX90)
set_option maxHeartbeats 4000000 in
set_option maxRecDepth 100000 in
theorem c_X9_end (l : Launch) (dC : Nat → ClassId) (dI : Nat → Nat → Nat) (h0 : Nat) (ar : Nat → Nat) (ca : Nat → ClassId) (p0 : Int32) (st st' : RS) (r : Int32) (hf : x9_end p0 st = some (r, st')) (sz : Nat) : Met l yX9_end wq_X9_end ({ frames := 0, cells := 0, slots := 0, locals := 0 }) (va_Pc [.ref h0, .int p0] (Pr (dC, dI) (rT ca) [] (RW h0 ar ca st) sz)) (va_Qi (fun r' (_ : Unit) => r' = r) (Bq (dC, dI) (fun _ => RW h0 ar ca st') (fun _ => []) (va_A (RW h0 ar ca st) sz)) (va_A (RW h0 ar ca st) sz)) 0 0 (va_A (RW h0 ar ca st) sz) := by
  refine Met.ofW (cc := cX9_end) (maxL := 2) (ret := (some .boolean)) (by decide) rfl ?_
  intro p e s m args below meth c s₁ B hml hv
  obtain ⟨rfl, hsz, hP, hK, hD0, hN, hZ, hR⟩ := hv
  have hx := B.exec
  have hb := B.bytes
  have hr := B.returns
  have hts := atoms_spec (ws := wq_X9_end) B.pre
  have hown : s.vm.findClass RX9 = some m.cls := findClass_of_methodNamed B.named
  have iRX9 : ∀ w ∈ u_ws RX9 TX9 60, w ∈ wq_X9_end := fun w h => List.mem_cons_of_mem _ (List.mem_append_right _ h)
  subst hsz
  have hp : Rp (dC, dI) h0 ar ca (va_A (RW h0 ar ca st) s.heap.size) s.heap st s.heap [] := ⟨hP, hD0.self, va_S.rf⟩
  generalize hAe : va_A (RW h0 ar ca st) s.heap.size = A at hp hZ ⊢
  have hA : ∀ q : Nat, s.heap.size ≤ q → A q := fun q h => by rw [← hAe]; exact Or.inr h
  have hl := lv_entry ([.ref h0, .int p0]) (n := 2) (Nat.le_of_ble_eq_true rfl)
  rw [lg_entry_eq]
  generalize (lg_sl ([.ref h0, .int p0]) ++ List.replicate (2 - (lg_sl ([.ref h0, .int p0])).length) Slot.unset).toArray = ls at hl ⊢
  have hl : lv_has ls 2 [(0, .ref h0), (1, .int p0)] := hl
  unfold x9_end at hf
  refine lv_iload_n hx hb dX9_end_0 rfl (lv_at hl 1 rfl) ?_
  refine lv_if_lt (tgt := 12) hx hb dX9_end_1 (by decide) (fun c_1 => ?_) (fun c_1 => ?_)
  · have hf := pif_t c_1 hf
    refine lv_iconst (v := 0) hx hb dX9_end_12 (by decide) ?_
    obtain ⟨e1, e2⟩ := pr_some hf
    exact W.zret (v := 0) hx hb hr rfl (fun t ht hW => ⟨⟨0, (), rfl, e1, Rp.end e2 hp hK ht hW⟩, hp.2.2.F ht⟩) hp.2.2.2.2 dX9_end_13
  · have hf := pif_f c_1 hf
    refine lv_iload_n hx hb dX9_end_4 rfl (lv_at hl 1 rfl) ?_
    refine lv_aload_n hx hb dX9_end_5 rfl (lv_at hl 0 rfl) ?_
    refine r_gi hx hb hts iRX9 hown hK hp 10 (by decide) rfl (hts (.fieldLink RX9 132 "RecordBenchModel" "taped" "I") (by decide +kernel)) dX9_end_6 ?_
    refine lv_icmp_le (tgt := 14) hx hb dX9_end_9 (by decide) (fun c_2 => ?_) (fun c_2 => ?_)
    · have hf := pif_t c_2 hf
      refine lv_aload_n hx hb dX9_end_14 rfl (lv_at hl 0 rfl) ?_
      refine lv_iload_n hx hb dX9_end_15 rfl (lv_at hl 1 rfl) ?_
      refine r_pi (v := p0) (ty := .int) hx hb hts iRX9 hown hK hp 10 (by decide) rfl (hts (.fieldLink RX9 132 "RecordBenchModel" "taped" "I") (by decide +kernel)) rfl (by decide +kernel) rfl rfl dX9_end_16 (fun H locs hp => ?_)
      obtain ⟨st_3, est_3, hf⟩ := nam_some hf
      rw [← est_3] at hp
      refine lv_iconst (v := 1) hx hb dX9_end_19 (by decide) ?_
      obtain ⟨e1, e2⟩ := pr_some hf
      exact W.zret (v := 1) hx hb hr rfl (fun t ht hW => ⟨⟨1, (), rfl, e1, Rp.end e2 hp hK ht hW⟩, hp.2.2.F ht⟩) hp.2.2.2.2 dX9_end_20
    · have hf := pif_f c_2 hf
      refine lv_iconst (v := 0) hx hb dX9_end_12 (by decide) ?_
      obtain ⟨e1, e2⟩ := pr_some hf
      exact W.zret (v := 0) hx hb hr rfl (fun t ht hW => ⟨⟨0, (), rfl, e1, Rp.end e2 hp hK ht hW⟩, hp.2.2.F ht⟩) hp.2.2.2.2 dX9_end_13
noncomputable def x9_fault (p0 : Int32) (st : RS) : Option (Int32 × RS) := pif (p0 = 0) (some (gI st 15, st)) (pif (p0 = 1) (some (gI st 16, st)) (some (((-1) : Int32), st)))
def wq_X9_fault : List Cond := .code yX9_fault cX9_fault 2 (some .int) :: (([.fieldLink RX9 42 "RecordBenchModel" "faultPlace" "I", .fieldLink RX9 236 "RecordBenchModel" "fault" "I"] : List Cond) ++ wsX90)
set_option maxHeartbeats 4000000 in
set_option maxRecDepth 100000 in
theorem c_X9_fault (l : Launch) (dC : Nat → ClassId) (dI : Nat → Nat → Nat) (h0 : Nat) (ar : Nat → Nat) (ca : Nat → ClassId) (p0 : Int32) (st st' : RS) (r : Int32) (hf : x9_fault p0 st = some (r, st')) (sz : Nat) : Met l yX9_fault wq_X9_fault ({ frames := 0, cells := 0, slots := 0, locals := 0 }) (va_Pc [.ref h0, .int p0] (Pr (dC, dI) (rT ca) [] (RW h0 ar ca st) sz)) (va_Qi (fun r' (_ : Unit) => r' = r) (Bq (dC, dI) (fun _ => RW h0 ar ca st') (fun _ => []) (va_A (RW h0 ar ca st) sz)) (va_A (RW h0 ar ca st) sz)) 0 0 (va_A (RW h0 ar ca st) sz) := by
  refine Met.ofW (cc := cX9_fault) (maxL := 2) (ret := (some .int)) (by decide) rfl ?_
  intro p e s m args below meth c s₁ B hml hv
  obtain ⟨rfl, hsz, hP, hK, hD0, hN, hZ, hR⟩ := hv
  have hx := B.exec
  have hb := B.bytes
  have hr := B.returns
  have hts := atoms_spec (ws := wq_X9_fault) B.pre
  have hown : s.vm.findClass RX9 = some m.cls := findClass_of_methodNamed B.named
  have iRX9 : ∀ w ∈ u_ws RX9 TX9 60, w ∈ wq_X9_fault := fun w h => List.mem_cons_of_mem _ (List.mem_append_right _ h)
  subst hsz
  have hp : Rp (dC, dI) h0 ar ca (va_A (RW h0 ar ca st) s.heap.size) s.heap st s.heap [] := ⟨hP, hD0.self, va_S.rf⟩
  generalize hAe : va_A (RW h0 ar ca st) s.heap.size = A at hp hZ ⊢
  have hA : ∀ q : Nat, s.heap.size ≤ q → A q := fun q h => by rw [← hAe]; exact Or.inr h
  have hl := lv_entry ([.ref h0, .int p0]) (n := 2) (Nat.le_of_ble_eq_true rfl)
  rw [lg_entry_eq]
  generalize (lg_sl ([.ref h0, .int p0]) ++ List.replicate (2 - (lg_sl ([.ref h0, .int p0])).length) Slot.unset).toArray = ls at hl ⊢
  have hl : lv_has ls 2 [(0, .ref h0), (1, .int p0)] := hl
  unfold x9_fault at hf
  refine lv_iload_n hx hb dX9_fault_0 rfl (lv_at hl 1 rfl) ?_
  refine lv_if_ne (tgt := 11) hx hb dX9_fault_1 (by decide) (fun c_1 => ?_) (fun c_1 => ?_)
  · have hf := pif_f c_1 hf
    refine lv_iload_n hx hb dX9_fault_11 rfl (lv_at hl 1 rfl) ?_
    refine lv_iconst (v := 1) hx hb dX9_fault_12 (by decide) ?_
    refine lv_icmp_ne (tgt := 23) hx hb dX9_fault_13 (by decide) (fun c_2 => ?_) (fun c_2 => ?_)
    · have hf := pif_f c_2 hf
      refine lv_iconst (v := (-1)) hx hb dX9_fault_23 (by decide) ?_
      obtain ⟨e1, e2⟩ := pr_some hf
      exact W.iret (v := (-1)) hx hb hr (fun t ht hW => ⟨⟨(-1), (), rfl, e1, Rp.end e2 hp hK ht hW⟩, hp.2.2.F ht⟩) hp.2.2.2.2 dX9_fault_24
    · have hf := pif_t c_2 hf
      refine lv_aload_n hx hb dX9_fault_16 rfl (lv_at hl 0 rfl) ?_
      refine r_gi hx hb hts iRX9 hown hK hp 16 (by decide) rfl (hts (.fieldLink RX9 42 "RecordBenchModel" "faultPlace" "I") (by decide +kernel)) dX9_fault_17 ?_
      refine lv_goto (tgt := 24) hx hb dX9_fault_20 (by decide) ?_
      obtain ⟨e1, e2⟩ := pr_some hf
      exact W.iret (v := gI st 16) hx hb hr (fun t ht hW => ⟨⟨gI st 16, (), rfl, e1, Rp.end e2 hp hK ht hW⟩, hp.2.2.F ht⟩) hp.2.2.2.2 dX9_fault_24
  · have hf := pif_t c_1 hf
    refine lv_aload_n hx hb dX9_fault_4 rfl (lv_at hl 0 rfl) ?_
    refine r_gi hx hb hts iRX9 hown hK hp 15 (by decide) rfl (hts (.fieldLink RX9 236 "RecordBenchModel" "fault" "I") (by decide +kernel)) dX9_fault_5 ?_
    refine lv_goto (tgt := 24) hx hb dX9_fault_8 (by decide) ?_
    obtain ⟨e1, e2⟩ := pr_some hf
    exact W.iret (v := gI st 15) hx hb hr (fun t ht hW => ⟨⟨gI st 15, (), rfl, e1, Rp.end e2 hp hK ht hW⟩, hp.2.2.F ht⟩) hp.2.2.2.2 dX9_fault_24
noncomputable def x9_isField (p0 : Int32) (p1 : Int32) (st : RS) : Option (Int32 × RS) := bnd (x9_isMake p0 st) (fun r_3 st_1 => pif (r_3 = 0) (some ((0 : Int32), st_1)) (pif (p1 ≤ 0) (some ((0 : Int32), st_1)) (pif (31 ≤ p1) (some ((0 : Int32), st_1)) (gd (vp_in ((31 * p0) + p1) 248) (pif ((gF st_1 8 ((31 * p0) + p1).toNatClampNeg) = 0) (some ((0 : Int32), st_1)) (some ((1 : Int32), st_1)))))))
def wq_X9_isField : List Cond := .code yX9_isField cX9_isField 3 (some .boolean) :: (([.fieldLink RX9 36 "RecordBenchModel" "isThere" "[Z", .methodLink RX9 239 yX9_isMake, .instanceMethod yX9_isMake, .selects RX9 yX9_isMake yX9_isMake, .initialized RX9, .code yX9_isMake cX9_isMake 2 (some .boolean), .fieldLink RX9 7 "RecordBenchModel" "told" "[Z"] : List Cond) ++ wsX90)
theorem gs_wq_X9_isField_wsX90 : GoodIn wq_X9_isField wsX90 := fun w h => ⟨List.mem_cons_of_mem _ (List.mem_append_right _ h), (gt_wsX90 w h).2⟩
set_option maxRecDepth 20000 in
theorem gq_X9_isField_X9_isMake_239 : GoodIn wq_X9_isField (wsV RX9 239 RX9 yX9_isMake wq_X9_isMake) := goodIn_app (goodIn_r _ [2, 3, 4, 5] rfl rfl) (goodIn_ca (goodIn_r _ [6, 7] rfl rfl) gs_wq_X9_isField_wsX90)
set_option maxHeartbeats 4000000 in
set_option maxRecDepth 100000 in
theorem c_X9_isField (l : Launch) (dC : Nat → ClassId) (dI : Nat → Nat → Nat) (h0 : Nat) (ar : Nat → Nat) (ca : Nat → ClassId) (p0 : Int32) (p1 : Int32) (st st' : RS) (r : Int32) (hf : x9_isField p0 p1 st = some (r, st')) (sz : Nat) : Met l yX9_isField wq_X9_isField ({ frames := 1, cells := 0, slots := 0, locals := 25 }) (va_Pc [.ref h0, .int p0, .int p1] (Pr (dC, dI) (rT ca) [] (RW h0 ar ca st) sz)) (va_Qi (fun r' (_ : Unit) => r' = r) (Bq (dC, dI) (fun _ => RW h0 ar ca st') (fun _ => []) (va_A (RW h0 ar ca st) sz)) (va_A (RW h0 ar ca st) sz)) 0 0 (va_A (RW h0 ar ca st) sz) := by
  refine Met.ofW (cc := cX9_isField) (maxL := 3) (ret := (some .boolean)) (by decide) rfl ?_
  intro p e s m args below meth c s₁ B hml hv
  obtain ⟨rfl, hsz, hP, hK, hD0, hN, hZ, hR⟩ := hv
  have hx := B.exec
  have hb := B.bytes
  have hr := B.returns
  have hts := atoms_spec (ws := wq_X9_isField) B.pre
  have hown : s.vm.findClass RX9 = some m.cls := findClass_of_methodNamed B.named
  have iRX9 : ∀ w ∈ u_ws RX9 TX9 60, w ∈ wq_X9_isField := fun w h => List.mem_cons_of_mem _ (List.mem_append_right _ h)
  subst hsz
  have hp : Rp (dC, dI) h0 ar ca (va_A (RW h0 ar ca st) s.heap.size) s.heap st s.heap [] := ⟨hP, hD0.self, va_S.rf⟩
  generalize hAe : va_A (RW h0 ar ca st) s.heap.size = A at hp hZ ⊢
  have hA : ∀ q : Nat, s.heap.size ≤ q → A q := fun q h => by rw [← hAe]; exact Or.inr h
  have hl := lv_entry ([.ref h0, .int p0, .int p1]) (n := 3) (Nat.le_of_ble_eq_true rfl)
  rw [lg_entry_eq]
  generalize (lg_sl ([.ref h0, .int p0, .int p1]) ++ List.replicate (3 - (lg_sl ([.ref h0, .int p0, .int p1])).length) Slot.unset).toArray = ls at hl ⊢
  have hl : lv_has ls 3 [(0, .ref h0), (1, .int p0), (2, .int p1)] := hl
  unfold x9_isField at hf
  refine lv_aload_n hx hb dX9_isField_0 rfl (lv_at hl 0 rfl) ?_
  refine lv_iload_n hx hb dX9_isField_1 rfl (lv_at hl 1 rfl) ?_
  obtain ⟨r_3, st_1, hc_2, hf⟩ := bnd_some hf
  refine r_ci hp hA (va_runV (As := [.int p0]) (rest := []) ⟨hx, hb, hml, hown, hts⟩ (c_X9_isMake l dC dI h0 ar ca p0 _ _ _ hc_2 _) (cwV 1 hts gq_X9_isField_X9_isMake_239 rfl rfl rfl (by decide +kernel) ⟨Nat.le_of_ble_eq_true rfl, Nat.le_of_ble_eq_true rfl⟩) ⟨Pr.blind _, va_recv hK hp.1 (ci := 11) (q0 := 0) rfl rfl, r_pre hp hK hN hZ hA⟩ rfl rfl hl.1 rfl (lv_room (Nat.le_of_ble_eq_true rfl)) dX9_isField_2 ⟨Nat.le_of_ble_eq_true rfl, Nat.le_of_ble_eq_true rfl⟩) (fun H locs hp => ?_)
  refine lv_if_eq (tgt := 36) hx hb dX9_isField_5 (by decide) (fun c_4 => ?_) (fun c_4 => ?_)
  · have hf := pif_t c_4 hf
    refine lv_iconst (v := 0) hx hb dX9_isField_36 (by decide) ?_
    obtain ⟨e1, e2⟩ := pr_some hf
    exact W.zret (v := 0) hx hb hr rfl (fun t ht hW => ⟨⟨0, (), rfl, e1, Rp.end e2 hp hK ht hW⟩, hp.2.2.F ht⟩) hp.2.2.2.2 dX9_isField_37
  · have hf := pif_f c_4 hf
    refine lv_iload_n hx hb dX9_isField_8 rfl (lv_at hl 2 rfl) ?_
    refine lv_if_le (tgt := 36) hx hb dX9_isField_9 (by decide) (fun c_5 => ?_) (fun c_5 => ?_)
    · have hf := pif_t c_5 hf
      refine lv_iconst (v := 0) hx hb dX9_isField_36 (by decide) ?_
      obtain ⟨e1, e2⟩ := pr_some hf
      exact W.zret (v := 0) hx hb hr rfl (fun t ht hW => ⟨⟨0, (), rfl, e1, Rp.end e2 hp hK ht hW⟩, hp.2.2.F ht⟩) hp.2.2.2.2 dX9_isField_37
    · have hf := pif_f c_5 hf
      refine lv_iload_n hx hb dX9_isField_12 rfl (lv_at hl 2 rfl) ?_
      refine lv_bipush (v := 31) hx hb dX9_isField_13 (by decide) ?_
      refine lv_icmp_ge (tgt := 36) hx hb dX9_isField_15 (by decide) (fun c_6 => ?_) (fun c_6 => ?_)
      · have hf := pif_t c_6 hf
        refine lv_iconst (v := 0) hx hb dX9_isField_36 (by decide) ?_
        obtain ⟨e1, e2⟩ := pr_some hf
        exact W.zret (v := 0) hx hb hr rfl (fun t ht hW => ⟨⟨0, (), rfl, e1, Rp.end e2 hp hK ht hW⟩, hp.2.2.F ht⟩) hp.2.2.2.2 dX9_isField_37
      · have hf := pif_f c_6 hf
        refine lv_aload_n hx hb dX9_isField_18 rfl (lv_at hl 0 rfl) ?_
        refine r_ga hx hb hts iRX9 hown hK hp 8 (by decide) (by decide) (hts (.fieldLink RX9 36 "RecordBenchModel" "isThere" "[Z") (by decide +kernel)) dX9_isField_19 ?_
        refine lv_bipush (v := 31) hx hb dX9_isField_22 (by decide) ?_
        refine lv_iload_n hx hb dX9_isField_24 rfl (lv_at hl 1 rfl) ?_
        refine lv_imul hx hb dX9_isField_25 ?_
        refine lv_iload_n hx hb dX9_isField_26 rfl (lv_at hl 2 rfl) ?_
        refine lv_iadd hx hb dX9_isField_27 ?_
        obtain ⟨g_7, hf⟩ := gd_some hf
        refine r_az (n := 248) hx hb hK hp 8 8 rfl rfl rfl g_7 dX9_isField_28 ?_
        refine lv_if_eq (tgt := 36) hx hb dX9_isField_29 (by decide) (fun c_8 => ?_) (fun c_8 => ?_)
        · have hf := pif_t c_8 hf
          refine lv_iconst (v := 0) hx hb dX9_isField_36 (by decide) ?_
          obtain ⟨e1, e2⟩ := pr_some hf
          exact W.zret (v := 0) hx hb hr rfl (fun t ht hW => ⟨⟨0, (), rfl, e1, Rp.end e2 hp hK ht hW⟩, hp.2.2.F ht⟩) hp.2.2.2.2 dX9_isField_37
        · have hf := pif_f c_8 hf
          refine lv_iconst (v := 1) hx hb dX9_isField_32 (by decide) ?_
          refine lv_goto (tgt := 37) hx hb dX9_isField_33 (by decide) ?_
          obtain ⟨e1, e2⟩ := pr_some hf
          exact W.zret (v := 1) hx hb hr rfl (fun t ht hW => ⟨⟨1, (), rfl, e1, Rp.end e2 hp hK ht hW⟩, hp.2.2.F ht⟩) hp.2.2.2.2 dX9_isField_37
noncomputable def x9_field_ (p0 : Int32) (p1 : Int32) (p2 : Int32) (st : RS) : Option (Int32 × RS) := bnd (x9_isField p0 p1 st) (fun r_3 st_1 => pif (r_3 = 0) (some (((-1) : Int32), st_1)) (nam ((31 * p0) + p1) (fun v_5 => pif (p2 = 0) (gd (vp_in v_5 248) (some (gF st_1 1 v_5.toNatClampNeg, st_1))) (pif (p2 = 1) (gd (vp_in v_5 248) (some (gF st_1 2 v_5.toNatClampNeg, st_1))) (pif (p2 = 2) (gd (vp_in v_5 248) (pif ((gF st_1 1 v_5.toNatClampNeg) = 6) (gd (vp_in v_5 248) (some (gF st_1 3 v_5.toNatClampNeg, st_1))) (some (((-1) : Int32), st_1)))) (pif (p2 = 3) (gd (vp_in v_5 248) (some (gF st_1 4 v_5.toNatClampNeg, st_1))) (some (((-1) : Int32), st_1))))))))
def wq_X9_field_ : List Cond := .code yX9_field_ cX9_field_ 5 (some .int) :: (([.fieldLink RX9 13 "RecordBenchModel" "kind" "[I", .fieldLink RX9 17 "RecordBenchModel" "group" "[I", .fieldLink RX9 20 "RecordBenchModel" "inner" "[I", .fieldLink RX9 23 "RecordBenchModel" "letters" "[I", .methodLink RX9 242 yX9_isField, .instanceMethod yX9_isField, .selects RX9 yX9_isField yX9_isField, .initialized RX9, .code yX9_isField cX9_isField 3 (some .boolean), .fieldLink RX9 36 "RecordBenchModel" "isThere" "[Z", .methodLink RX9 239 yX9_isMake, .instanceMethod yX9_isMake, .selects RX9 yX9_isMake yX9_isMake, .code yX9_isMake cX9_isMake 2 (some .boolean), .fieldLink RX9 7 "RecordBenchModel" "told" "[Z"] : List Cond) ++ wsX90)
theorem gs_wq_X9_field__wsX90 : GoodIn wq_X9_field_ wsX90 := fun w h => ⟨List.mem_cons_of_mem _ (List.mem_append_right _ h), (gt_wsX90 w h).2⟩
set_option maxRecDepth 20000 in
theorem gq_X9_field__X9_isField_242 : GoodIn wq_X9_field_ (wsV RX9 242 RX9 yX9_isField wq_X9_isField) := goodIn_app (goodIn_r _ [5, 6, 7, 8] rfl rfl) (goodIn_ca (goodIn_r _ [9, 10, 11, 12, 13, 8, 14, 15] rfl rfl) gs_wq_X9_field__wsX90)
set_option maxHeartbeats 4000000 in
set_option maxRecDepth 100000 in
theorem c_X9_field_ (l : Launch) (dC : Nat → ClassId) (dI : Nat → Nat → Nat) (h0 : Nat) (ar : Nat → Nat) (ca : Nat → ClassId) (p0 : Int32) (p1 : Int32) (p2 : Int32) (st st' : RS) (r : Int32) (hf : x9_field_ p0 p1 p2 st = some (r, st')) (sz : Nat) : Met l yX9_field_ wq_X9_field_ ({ frames := 2, cells := 0, slots := 0, locals := 51 }) (va_Pc [.ref h0, .int p0, .int p1, .int p2] (Pr (dC, dI) (rT ca) [] (RW h0 ar ca st) sz)) (va_Qi (fun r' (_ : Unit) => r' = r) (Bq (dC, dI) (fun _ => RW h0 ar ca st') (fun _ => []) (va_A (RW h0 ar ca st) sz)) (va_A (RW h0 ar ca st) sz)) 0 0 (va_A (RW h0 ar ca st) sz) := by
  refine Met.ofW (cc := cX9_field_) (maxL := 5) (ret := (some .int)) (by decide) rfl ?_
  intro p e s m args below meth c s₁ B hml hv
  obtain ⟨rfl, hsz, hP, hK, hD0, hN, hZ, hR⟩ := hv
  have hx := B.exec
  have hb := B.bytes
  have hr := B.returns
  have hts := atoms_spec (ws := wq_X9_field_) B.pre
  have hown : s.vm.findClass RX9 = some m.cls := findClass_of_methodNamed B.named
  have iRX9 : ∀ w ∈ u_ws RX9 TX9 60, w ∈ wq_X9_field_ := fun w h => List.mem_cons_of_mem _ (List.mem_append_right _ h)
  subst hsz
  have hp : Rp (dC, dI) h0 ar ca (va_A (RW h0 ar ca st) s.heap.size) s.heap st s.heap [] := ⟨hP, hD0.self, va_S.rf⟩
  generalize hAe : va_A (RW h0 ar ca st) s.heap.size = A at hp hZ ⊢
  have hA : ∀ q : Nat, s.heap.size ≤ q → A q := fun q h => by rw [← hAe]; exact Or.inr h
  have hl := lv_entry ([.ref h0, .int p0, .int p1, .int p2]) (n := 5) (Nat.le_of_ble_eq_true rfl)
  rw [lg_entry_eq]
  generalize (lg_sl ([.ref h0, .int p0, .int p1, .int p2]) ++ List.replicate (5 - (lg_sl ([.ref h0, .int p0, .int p1, .int p2])).length) Slot.unset).toArray = ls at hl ⊢
  have hl : lv_has ls 5 [(0, .ref h0), (1, .int p0), (2, .int p1), (3, .int p2)] := hl
  unfold x9_field_ at hf
  refine lv_aload_n hx hb dX9_field__0 rfl (lv_at hl 0 rfl) ?_
  refine lv_iload_n hx hb dX9_field__1 rfl (lv_at hl 1 rfl) ?_
  refine lv_iload_n hx hb dX9_field__2 rfl (lv_at hl 2 rfl) ?_
  obtain ⟨r_3, st_1, hc_2, hf⟩ := bnd_some hf
  refine r_ci hp hA (va_runV (As := [.int p0, .int p1]) (rest := []) ⟨hx, hb, hml, hown, hts⟩ (c_X9_isField l dC dI h0 ar ca p0 p1 _ _ _ hc_2 _) (cwV 2 hts gq_X9_field__X9_isField_242 rfl rfl rfl (by decide +kernel) ⟨Nat.le_of_ble_eq_true rfl, Nat.le_of_ble_eq_true rfl⟩) ⟨Pr.blind _, va_recv hK hp.1 (ci := 11) (q0 := 0) rfl rfl, r_pre hp hK hN hZ hA⟩ rfl rfl hl.1 rfl (lv_room (Nat.le_of_ble_eq_true rfl)) dX9_field__3 ⟨Nat.le_of_ble_eq_true rfl, Nat.le_of_ble_eq_true rfl⟩) (fun H locs hp => ?_)
  refine lv_if_ne (tgt := 11) hx hb dX9_field__6 (by decide) (fun c_4 => ?_) (fun c_4 => ?_)
  · have hf := pif_f c_4 hf
    refine lv_bipush (v := 31) hx hb dX9_field__11 (by decide) ?_
    refine lv_iload_n hx hb dX9_field__13 rfl (lv_at hl 1 rfl) ?_
    refine lv_imul hx hb dX9_field__14 ?_
    refine lv_iload_n hx hb dX9_field__15 rfl (lv_at hl 2 rfl) ?_
    refine lv_iadd hx hb dX9_field__16 ?_
    obtain ⟨v_5, ev_5, hf⟩ := nam_some hf
    refine W_toi (y := v_5) ev_5.symm ?_
    refine lv_istore (lv' := [(4, .int v_5), (0, .ref h0), (1, .int p0), (2, .int p1), (3, .int p2)]) hx hb dX9_field__17 hl (by decide) rfl (fun ls hl => ?_)
    refine lv_iload_n hx hb dX9_field__19 rfl (lv_at hl 4 rfl) ?_
    by_cases c_60 : p2 = 0
    · have hf := pif_t c_60 hf
      refine lv_tableIn (tgt := 52) hx hb dX9_field__20 (by rw [c_60]; decide) (by rw [c_60]; decide) (off := 32) (by rw [c_60]; rfl) (by decide) ?_
      refine lv_aload_n hx hb dX9_field__52 rfl (lv_at hl 1 rfl) ?_
      refine r_ga hx hb hts iRX9 hown hK hp 1 (by decide) (by decide) (hts (.fieldLink RX9 13 "RecordBenchModel" "kind" "[I") (by decide +kernel)) dX9_field__53 ?_
      refine lv_iload hx hb dX9_field__56 (lv_at hl 0 rfl) ?_
      obtain ⟨g_7, hf⟩ := gd_some hf
      refine r_ai (n := 248) hx hb hK hp 1 1 rfl rfl rfl g_7 dX9_field__58 ?_
      obtain ⟨e1, e2⟩ := pr_some hf
      exact W.iret (v := gF st_1 1 v_5.toNatClampNeg) hx hb hr (fun t ht hW => ⟨⟨gF st_1 1 v_5.toNatClampNeg, (), rfl, e1, Rp.end e2 hp hK ht hW⟩, hp.2.2.F ht⟩) hp.2.2.2.2 dX9_field__59
    · have hf := pif_f c_60 hf
      by_cases c_61 : p2 = 1
      · have hf := pif_t c_61 hf
        refine lv_tableIn (tgt := 60) hx hb dX9_field__20 (by rw [c_61]; decide) (by rw [c_61]; decide) (off := 40) (by rw [c_61]; rfl) (by decide) ?_
        refine lv_aload_n hx hb dX9_field__60 rfl (lv_at hl 1 rfl) ?_
        refine r_ga hx hb hts iRX9 hown hK hp 2 (by decide) (by decide) (hts (.fieldLink RX9 17 "RecordBenchModel" "group" "[I") (by decide +kernel)) dX9_field__61 ?_
        refine lv_iload hx hb dX9_field__64 (lv_at hl 0 rfl) ?_
        obtain ⟨g_8, hf⟩ := gd_some hf
        refine r_ai (n := 248) hx hb hK hp 2 2 rfl rfl rfl g_8 dX9_field__66 ?_
        obtain ⟨e1, e2⟩ := pr_some hf
        exact W.iret (v := gF st_1 2 v_5.toNatClampNeg) hx hb hr (fun t ht hW => ⟨⟨gF st_1 2 v_5.toNatClampNeg, (), rfl, e1, Rp.end e2 hp hK ht hW⟩, hp.2.2.F ht⟩) hp.2.2.2.2 dX9_field__67
      · have hf := pif_f c_61 hf
        by_cases c_62 : p2 = 2
        · have hf := pif_t c_62 hf
          refine lv_tableIn (tgt := 68) hx hb dX9_field__20 (by rw [c_62]; decide) (by rw [c_62]; decide) (off := 48) (by rw [c_62]; rfl) (by decide) ?_
          refine lv_aload_n hx hb dX9_field__68 rfl (lv_at hl 1 rfl) ?_
          refine r_ga hx hb hts iRX9 hown hK hp 1 (by decide) (by decide) (hts (.fieldLink RX9 13 "RecordBenchModel" "kind" "[I") (by decide +kernel)) dX9_field__69 ?_
          refine lv_iload hx hb dX9_field__72 (lv_at hl 0 rfl) ?_
          obtain ⟨g_9, hf⟩ := gd_some hf
          refine r_ai (n := 248) hx hb hK hp 1 1 rfl rfl rfl g_9 dX9_field__74 ?_
          refine lv_bipush (v := 6) hx hb dX9_field__75 (by decide) ?_
          refine lv_icmp_ne (tgt := 90) hx hb dX9_field__77 (by decide) (fun c_10 => ?_) (fun c_10 => ?_)
          · have hf := pif_f c_10 hf
            refine lv_iconst (v := (-1)) hx hb dX9_field__90 (by decide) ?_
            obtain ⟨e1, e2⟩ := pr_some hf
            exact W.iret (v := (-1)) hx hb hr (fun t ht hW => ⟨⟨(-1), (), rfl, e1, Rp.end e2 hp hK ht hW⟩, hp.2.2.F ht⟩) hp.2.2.2.2 dX9_field__91
          · have hf := pif_t c_10 hf
            refine lv_aload_n hx hb dX9_field__80 rfl (lv_at hl 1 rfl) ?_
            refine r_ga hx hb hts iRX9 hown hK hp 3 (by decide) (by decide) (hts (.fieldLink RX9 20 "RecordBenchModel" "inner" "[I") (by decide +kernel)) dX9_field__81 ?_
            refine lv_iload hx hb dX9_field__84 (lv_at hl 0 rfl) ?_
            obtain ⟨g_11, hf⟩ := gd_some hf
            refine r_ai (n := 248) hx hb hK hp 3 3 rfl rfl rfl g_11 dX9_field__86 ?_
            refine lv_goto (tgt := 91) hx hb dX9_field__87 (by decide) ?_
            obtain ⟨e1, e2⟩ := pr_some hf
            exact W.iret (v := gF st_1 3 v_5.toNatClampNeg) hx hb hr (fun t ht hW => ⟨⟨gF st_1 3 v_5.toNatClampNeg, (), rfl, e1, Rp.end e2 hp hK ht hW⟩, hp.2.2.F ht⟩) hp.2.2.2.2 dX9_field__91
        · have hf := pif_f c_62 hf
          by_cases c_63 : p2 = 3
          · have hf := pif_t c_63 hf
            refine lv_tableIn (tgt := 92) hx hb dX9_field__20 (by rw [c_63]; decide) (by rw [c_63]; decide) (off := 72) (by rw [c_63]; rfl) (by decide) ?_
            refine lv_aload_n hx hb dX9_field__92 rfl (lv_at hl 1 rfl) ?_
            refine r_ga hx hb hts iRX9 hown hK hp 4 (by decide) (by decide) (hts (.fieldLink RX9 23 "RecordBenchModel" "letters" "[I") (by decide +kernel)) dX9_field__93 ?_
            refine lv_iload hx hb dX9_field__96 (lv_at hl 0 rfl) ?_
            obtain ⟨g_12, hf⟩ := gd_some hf
            refine r_ai (n := 248) hx hb hK hp 4 4 rfl rfl rfl g_12 dX9_field__98 ?_
            obtain ⟨e1, e2⟩ := pr_some hf
            exact W.iret (v := gF st_1 4 v_5.toNatClampNeg) hx hb hr (fun t ht hW => ⟨⟨gF st_1 4 v_5.toNatClampNeg, (), rfl, e1, Rp.end e2 hp hK ht hW⟩, hp.2.2.F ht⟩) hp.2.2.2.2 dX9_field__99
          · have hf := pif_f c_63 hf
            refine lv_tableOut (tgt := 100) hx hb dX9_field__20 (sw_out4 c_60 c_61 c_62 c_63) (by decide) ?_
            refine lv_iconst (v := (-1)) hx hb dX9_field__100 (by decide) ?_
            obtain ⟨e1, e2⟩ := pr_some hf
            exact W.iret (v := (-1)) hx hb hr (fun t ht hW => ⟨⟨(-1), (), rfl, e1, Rp.end e2 hp hK ht hW⟩, hp.2.2.F ht⟩) hp.2.2.2.2 dX9_field__101
  · have hf := pif_t c_4 hf
    refine lv_iconst (v := (-1)) hx hb dX9_field__9 (by decide) ?_
    obtain ⟨e1, e2⟩ := pr_some hf
    exact W.iret (v := (-1)) hx hb hr (fun t ht hW => ⟨⟨(-1), (), rfl, e1, Rp.end e2 hp hK ht hW⟩, hp.2.2.F ht⟩) hp.2.2.2.2 dX9_field__10
noncomputable def x9_plain (p0 : Int32) (p1 : Int32) (st : RS) : Option (Int64 × RS) := bnd (x9_isField p0 p1 st) (fun r_3 st_1 => pif (r_3 = 0) (some ((0 : Int64), st_1)) (bnd (x9_has p0 p1 st_1) (fun r_7 st_5 => pif (r_7 = 0) (some ((0 : Int64), st_5)) (gd (vp_in ((31 * p0) + p1) 248) (pif ((gF st_5 1 ((31 * p0) + p1).toNatClampNeg) = 6) (some ((0 : Int64), st_5)) (gd (vp_in ((31 * p0) + p1) 248) (some (gL st_5 6 ((31 * p0) + p1).toNatClampNeg, st_5))))))))
def wq_X9_plain : List Cond := .code yX9_plain cX9_plain 3 (some .long) :: (([.fieldLink RX9 13 "RecordBenchModel" "kind" "[I", .fieldLink RX9 30 "RecordBenchModel" "plain" "[J", .methodLink RX9 242 yX9_isField, .instanceMethod yX9_isField, .selects RX9 yX9_isField yX9_isField, .initialized RX9, .methodLink RX9 246 yX9_has, .instanceMethod yX9_has, .selects RX9 yX9_has yX9_has, .code yX9_isField cX9_isField 3 (some .boolean), .fieldLink RX9 36 "RecordBenchModel" "isThere" "[Z", .methodLink RX9 239 yX9_isMake, .instanceMethod yX9_isMake, .selects RX9 yX9_isMake yX9_isMake, .code yX9_isMake cX9_isMake 2 (some .boolean), .fieldLink RX9 7 "RecordBenchModel" "told" "[Z", .code yX9_has cX9_has 3 (some .boolean)] : List Cond) ++ wsX90)
theorem gs_wq_X9_plain_wsX90 : GoodIn wq_X9_plain wsX90 := fun w h => ⟨List.mem_cons_of_mem _ (List.mem_append_right _ h), (gt_wsX90 w h).2⟩
set_option maxRecDepth 20000 in
theorem gq_X9_plain_X9_isField_242 : GoodIn wq_X9_plain (wsV RX9 242 RX9 yX9_isField wq_X9_isField) := goodIn_app (goodIn_r _ [3, 4, 5, 6] rfl rfl) (goodIn_ca (goodIn_r _ [10, 11, 12, 13, 14, 6, 15, 16] rfl rfl) gs_wq_X9_plain_wsX90)
set_option maxRecDepth 20000 in
theorem gq_X9_plain_X9_has_246 : GoodIn wq_X9_plain (wsV RX9 246 RX9 yX9_has wq_X9_has) := goodIn_app (goodIn_r _ [7, 8, 9, 6] rfl rfl) (goodIn_ca (goodIn_r _ [17, 11, 1] rfl rfl) gs_wq_X9_plain_wsX90)
set_option maxHeartbeats 4000000 in
set_option maxRecDepth 100000 in
theorem c_X9_plain (l : Launch) (dC : Nat → ClassId) (dI : Nat → Nat → Nat) (h0 : Nat) (ar : Nat → Nat) (ca : Nat → ClassId) (p0 : Int32) (p1 : Int32) (st st' : RS) (r : Int64) (hf : x9_plain p0 p1 st = some (r, st')) (sz : Nat) : Met l yX9_plain wq_X9_plain ({ frames := 2, cells := 0, slots := 0, locals := 51 }) (va_Pc [.ref h0, .int p0, .int p1] (Pr (dC, dI) (rT ca) [] (RW h0 ar ca st) sz)) (va_Ql (fun r' (_ : Unit) => r' = r) (Bq (dC, dI) (fun _ => RW h0 ar ca st') (fun _ => []) (va_A (RW h0 ar ca st) sz)) (va_A (RW h0 ar ca st) sz)) 0 0 (va_A (RW h0 ar ca st) sz) := by
  refine Met.ofW (cc := cX9_plain) (maxL := 3) (ret := (some .long)) (by decide) rfl ?_
  intro p e s m args below meth c s₁ B hml hv
  obtain ⟨rfl, hsz, hP, hK, hD0, hN, hZ, hR⟩ := hv
  have hx := B.exec
  have hb := B.bytes
  have hr := B.returns
  have hts := atoms_spec (ws := wq_X9_plain) B.pre
  have hown : s.vm.findClass RX9 = some m.cls := findClass_of_methodNamed B.named
  have iRX9 : ∀ w ∈ u_ws RX9 TX9 60, w ∈ wq_X9_plain := fun w h => List.mem_cons_of_mem _ (List.mem_append_right _ h)
  subst hsz
  have hp : Rp (dC, dI) h0 ar ca (va_A (RW h0 ar ca st) s.heap.size) s.heap st s.heap [] := ⟨hP, hD0.self, va_S.rf⟩
  generalize hAe : va_A (RW h0 ar ca st) s.heap.size = A at hp hZ ⊢
  have hA : ∀ q : Nat, s.heap.size ≤ q → A q := fun q h => by rw [← hAe]; exact Or.inr h
  have hl := lv_entry ([.ref h0, .int p0, .int p1]) (n := 3) (Nat.le_of_ble_eq_true rfl)
  rw [lg_entry_eq]
  generalize (lg_sl ([.ref h0, .int p0, .int p1]) ++ List.replicate (3 - (lg_sl ([.ref h0, .int p0, .int p1])).length) Slot.unset).toArray = ls at hl ⊢
  have hl : lv_has ls 3 [(0, .ref h0), (1, .int p0), (2, .int p1)] := hl
  unfold x9_plain at hf
  refine lv_aload_n hx hb dX9_plain_0 rfl (lv_at hl 0 rfl) ?_
  refine lv_iload_n hx hb dX9_plain_1 rfl (lv_at hl 1 rfl) ?_
  refine lv_iload_n hx hb dX9_plain_2 rfl (lv_at hl 2 rfl) ?_
  obtain ⟨r_3, st_1, hc_2, hf⟩ := bnd_some hf
  refine r_ci hp hA (va_runV (As := [.int p0, .int p1]) (rest := []) ⟨hx, hb, hml, hown, hts⟩ (c_X9_isField l dC dI h0 ar ca p0 p1 _ _ _ hc_2 _) (cwV 2 hts gq_X9_plain_X9_isField_242 rfl rfl rfl (by decide +kernel) ⟨Nat.le_of_ble_eq_true rfl, Nat.le_of_ble_eq_true rfl⟩) ⟨Pr.blind _, va_recv hK hp.1 (ci := 11) (q0 := 0) rfl rfl, r_pre hp hK hN hZ hA⟩ rfl rfl hl.1 rfl (lv_room (Nat.le_of_ble_eq_true rfl)) dX9_plain_3 ⟨Nat.le_of_ble_eq_true rfl, Nat.le_of_ble_eq_true rfl⟩) (fun H locs hp => ?_)
  refine lv_if_eq (tgt := 48) hx hb dX9_plain_6 (by decide) (fun c_4 => ?_) (fun c_4 => ?_)
  · have hf := pif_t c_4 hf
    refine lv_lconst (v := 0) hx hb dX9_plain_48 (by decide) ?_
    obtain ⟨e1, e2⟩ := pr_some hf
    exact W.lret (v := 0) hx hb hr (fun t ht hW => ⟨⟨0, (), rfl, e1, Rp.end e2 hp hK ht hW⟩, hp.2.2.F ht⟩) hp.2.2.2.2 dX9_plain_49
  · have hf := pif_f c_4 hf
    refine lv_aload_n hx hb dX9_plain_9 rfl (lv_at hl 0 rfl) ?_
    refine lv_iload_n hx hb dX9_plain_10 rfl (lv_at hl 1 rfl) ?_
    refine lv_iload_n hx hb dX9_plain_11 rfl (lv_at hl 2 rfl) ?_
    obtain ⟨r_7, st_5, hc_6, hf⟩ := bnd_some hf
    refine r_ci hp hA (va_runV (As := [.int p0, .int p1]) (rest := []) ⟨hx, hb, hml, hown, hts⟩ (c_X9_has l dC dI h0 ar ca p0 p1 _ _ _ hc_6 _) (cwV 2 hts gq_X9_plain_X9_has_246 rfl rfl rfl (by decide +kernel) ⟨Nat.le_of_ble_eq_true rfl, Nat.le_of_ble_eq_true rfl⟩) ⟨Pr.blind _, va_recv hK hp.1 (ci := 11) (q0 := 0) rfl rfl, r_pre hp hK hN hZ hA⟩ rfl rfl hl.1 rfl (lv_room (Nat.le_of_ble_eq_true rfl)) dX9_plain_12 ⟨Nat.le_of_ble_eq_true rfl, Nat.le_of_ble_eq_true rfl⟩) (fun H locs hp => ?_)
    refine lv_if_eq (tgt := 48) hx hb dX9_plain_15 (by decide) (fun c_8 => ?_) (fun c_8 => ?_)
    · have hf := pif_t c_8 hf
      refine lv_lconst (v := 0) hx hb dX9_plain_48 (by decide) ?_
      obtain ⟨e1, e2⟩ := pr_some hf
      exact W.lret (v := 0) hx hb hr (fun t ht hW => ⟨⟨0, (), rfl, e1, Rp.end e2 hp hK ht hW⟩, hp.2.2.F ht⟩) hp.2.2.2.2 dX9_plain_49
    · have hf := pif_f c_8 hf
      refine lv_aload_n hx hb dX9_plain_18 rfl (lv_at hl 0 rfl) ?_
      refine r_ga hx hb hts iRX9 hown hK hp 1 (by decide) (by decide) (hts (.fieldLink RX9 13 "RecordBenchModel" "kind" "[I") (by decide +kernel)) dX9_plain_19 ?_
      refine lv_bipush (v := 31) hx hb dX9_plain_22 (by decide) ?_
      refine lv_iload_n hx hb dX9_plain_24 rfl (lv_at hl 1 rfl) ?_
      refine lv_imul hx hb dX9_plain_25 ?_
      refine lv_iload_n hx hb dX9_plain_26 rfl (lv_at hl 2 rfl) ?_
      refine lv_iadd hx hb dX9_plain_27 ?_
      obtain ⟨g_9, hf⟩ := gd_some hf
      refine r_ai (n := 248) hx hb hK hp 1 1 rfl rfl rfl g_9 dX9_plain_28 ?_
      refine lv_bipush (v := 6) hx hb dX9_plain_29 (by decide) ?_
      refine lv_icmp_eq (tgt := 48) hx hb dX9_plain_31 (by decide) (fun c_10 => ?_) (fun c_10 => ?_)
      · have hf := pif_t c_10 hf
        refine lv_lconst (v := 0) hx hb dX9_plain_48 (by decide) ?_
        obtain ⟨e1, e2⟩ := pr_some hf
        exact W.lret (v := 0) hx hb hr (fun t ht hW => ⟨⟨0, (), rfl, e1, Rp.end e2 hp hK ht hW⟩, hp.2.2.F ht⟩) hp.2.2.2.2 dX9_plain_49
      · have hf := pif_f c_10 hf
        refine lv_aload_n hx hb dX9_plain_34 rfl (lv_at hl 0 rfl) ?_
        refine r_ga hx hb hts iRX9 hown hK hp 6 (by decide) (by decide) (hts (.fieldLink RX9 30 "RecordBenchModel" "plain" "[J") (by decide +kernel)) dX9_plain_35 ?_
        refine lv_bipush (v := 31) hx hb dX9_plain_38 (by decide) ?_
        refine lv_iload_n hx hb dX9_plain_40 rfl (lv_at hl 1 rfl) ?_
        refine lv_imul hx hb dX9_plain_41 ?_
        refine lv_iload_n hx hb dX9_plain_42 rfl (lv_at hl 2 rfl) ?_
        refine lv_iadd hx hb dX9_plain_43 ?_
        obtain ⟨g_11, hf⟩ := gd_some hf
        refine r_aj (n := 248) hx hb hK hp 6 6 rfl rfl rfl g_11 dX9_plain_44 ?_
        refine lv_goto (tgt := 49) hx hb dX9_plain_45 (by decide) ?_
        obtain ⟨e1, e2⟩ := pr_some hf
        exact W.lret (v := gL st_5 6 ((31 * p0) + p1).toNatClampNeg) hx hb hr (fun t ht hW => ⟨⟨gL st_5 6 ((31 * p0) + p1).toNatClampNeg, (), rfl, e1, Rp.end e2 hp hK ht hW⟩, hp.2.2.F ht⟩) hp.2.2.2.2 dX9_plain_49
noncomputable def x9_isRecord (p0 : Int32) (st : RS) : Option (Int32 × RS) := pif (p0 < 0) (some ((0 : Int32), st)) (pif (4 ≤ p0) (some ((0 : Int32), st)) (some ((1 : Int32), st)))
def wq_X9_isRecord : List Cond := .code yX9_isRecord cX9_isRecord 1 (some .boolean) :: ([])
set_option maxHeartbeats 4000000 in
set_option maxRecDepth 100000 in
theorem c_X9_isRecord (l : Launch) (dC : Nat → ClassId) (dI : Nat → Nat → Nat) (h0 : Nat) (ar : Nat → Nat) (ca : Nat → ClassId) (p0 : Int32) (st st' : RS) (r : Int32) (hf : x9_isRecord p0 st = some (r, st')) (sz : Nat) : Met l yX9_isRecord wq_X9_isRecord ({ frames := 0, cells := 0, slots := 0, locals := 0 }) (va_Pc [.int p0] (Pr (dC, dI) (rT ca) [] (RW h0 ar ca st) sz)) (va_Qi (fun r' (_ : Unit) => r' = r) (Bq (dC, dI) (fun _ => RW h0 ar ca st') (fun _ => []) (va_A (RW h0 ar ca st) sz)) (va_A (RW h0 ar ca st) sz)) 0 0 (va_A (RW h0 ar ca st) sz) := by
  refine Met.ofW (cc := cX9_isRecord) (maxL := 1) (ret := (some .boolean)) (by decide) rfl ?_
  intro p e s m args below meth c s₁ B hml hv
  obtain ⟨rfl, hsz, hP, hK, hD0, hN, hZ, hR⟩ := hv
  have hx := B.exec
  have hb := B.bytes
  have hr := B.returns
  have hts := atoms_spec (ws := wq_X9_isRecord) B.pre
  have hown : s.vm.findClass RX9 = some m.cls := findClass_of_methodNamed B.named
  subst hsz
  have hp : Rp (dC, dI) h0 ar ca (va_A (RW h0 ar ca st) s.heap.size) s.heap st s.heap [] := ⟨hP, hD0.self, va_S.rf⟩
  generalize hAe : va_A (RW h0 ar ca st) s.heap.size = A at hp hZ ⊢
  have hA : ∀ q : Nat, s.heap.size ≤ q → A q := fun q h => by rw [← hAe]; exact Or.inr h
  have hl := lv_entry ([.int p0]) (n := 1) (Nat.le_of_ble_eq_true rfl)
  rw [lg_entry_eq]
  generalize (lg_sl ([.int p0]) ++ List.replicate (1 - (lg_sl ([.int p0])).length) Slot.unset).toArray = ls at hl ⊢
  have hl : lv_has ls 1 [(0, .int p0)] := hl
  unfold x9_isRecord at hf
  refine lv_iload_n hx hb dX9_isRecord_0 rfl (lv_at hl 0 rfl) ?_
  refine lv_if_lt (tgt := 13) hx hb dX9_isRecord_1 (by decide) (fun c_1 => ?_) (fun c_1 => ?_)
  · have hf := pif_t c_1 hf
    refine lv_iconst (v := 0) hx hb dX9_isRecord_13 (by decide) ?_
    obtain ⟨e1, e2⟩ := pr_some hf
    exact W.zret (v := 0) hx hb hr rfl (fun t ht hW => ⟨⟨0, (), rfl, e1, Rp.end e2 hp hK ht hW⟩, hp.2.2.F ht⟩) hp.2.2.2.2 dX9_isRecord_14
  · have hf := pif_f c_1 hf
    refine lv_iload_n hx hb dX9_isRecord_4 rfl (lv_at hl 0 rfl) ?_
    refine lv_iconst (v := 4) hx hb dX9_isRecord_5 (by decide) ?_
    refine lv_icmp_ge (tgt := 13) hx hb dX9_isRecord_6 (by decide) (fun c_2 => ?_) (fun c_2 => ?_)
    · have hf := pif_t c_2 hf
      refine lv_iconst (v := 0) hx hb dX9_isRecord_13 (by decide) ?_
      obtain ⟨e1, e2⟩ := pr_some hf
      exact W.zret (v := 0) hx hb hr rfl (fun t ht hW => ⟨⟨0, (), rfl, e1, Rp.end e2 hp hK ht hW⟩, hp.2.2.F ht⟩) hp.2.2.2.2 dX9_isRecord_14
    · have hf := pif_f c_2 hf
      refine lv_iconst (v := 1) hx hb dX9_isRecord_9 (by decide) ?_
      refine lv_goto (tgt := 14) hx hb dX9_isRecord_10 (by decide) ?_
      obtain ⟨e1, e2⟩ := pr_some hf
      exact W.zret (v := 1) hx hb hr rfl (fun t ht hW => ⟨⟨1, (), rfl, e1, Rp.end e2 hp hK ht hW⟩, hp.2.2.F ht⟩) hp.2.2.2.2 dX9_isRecord_14
noncomputable def x9_clear (p0 : Int32) (st : RS) : Option (Int32 × RS) := bnd (x9_isRecord p0 st) (fun r_3 st_1 => pif (r_3 = 0) (some (((-1) : Int32), st_1)) (gd (vp_in p0 4) (nam (gF st_1 29 p0.toNatClampNeg) (fun v_6 => gd (vp_in p0 4) (nam (sF st_1 29 (upd (gF st_1 29) p0.toNatClampNeg 0)) (fun st_8 => some (v_6, st_8)))))))
def wq_X9_clear : List Cond := .code yX9_clear cX9_clear 3 (some .int) :: (([.fieldLink RX9 78 "RecordBenchModel" "long0" "[I", .methodLink RX9 249 yX9_isRecord, .static yX9_isRecord, .initialized RX9, .code yX9_isRecord cX9_isRecord 1 (some .boolean)] : List Cond) ++ wsX90)
set_option maxRecDepth 20000 in
theorem gq_X9_clear_X9_isRecord_249 : GoodIn wq_X9_clear (wsS RX9 249 yX9_isRecord wq_X9_isRecord) := goodIn_app (goodIn_r _ [2, 3, 4] rfl rfl) (goodIn_r _ [5] rfl rfl)
set_option maxHeartbeats 4000000 in
set_option maxRecDepth 100000 in
theorem c_X9_clear (l : Launch) (dC : Nat → ClassId) (dI : Nat → Nat → Nat) (h0 : Nat) (ar : Nat → Nat) (ca : Nat → ClassId) (p0 : Int32) (st st' : RS) (r : Int32) (hf : x9_clear p0 st = some (r, st')) (sz : Nat) : Met l yX9_clear wq_X9_clear ({ frames := 1, cells := 0, slots := 0, locals := 24 }) (va_Pc [.ref h0, .int p0] (Pr (dC, dI) (rT ca) [] (RW h0 ar ca st) sz)) (va_Qi (fun r' (_ : Unit) => r' = r) (Bq (dC, dI) (fun _ => RW h0 ar ca st') (fun _ => []) (va_A (RW h0 ar ca st) sz)) (va_A (RW h0 ar ca st) sz)) 0 0 (va_A (RW h0 ar ca st) sz) := by
  refine Met.ofW (cc := cX9_clear) (maxL := 3) (ret := (some .int)) (by decide) rfl ?_
  intro p e s m args below meth c s₁ B hml hv
  obtain ⟨rfl, hsz, hP, hK, hD0, hN, hZ, hR⟩ := hv
  have hx := B.exec
  have hb := B.bytes
  have hr := B.returns
  have hts := atoms_spec (ws := wq_X9_clear) B.pre
  have hown : s.vm.findClass RX9 = some m.cls := findClass_of_methodNamed B.named
  have iRX9 : ∀ w ∈ u_ws RX9 TX9 60, w ∈ wq_X9_clear := fun w h => List.mem_cons_of_mem _ (List.mem_append_right _ h)
  subst hsz
  have hp : Rp (dC, dI) h0 ar ca (va_A (RW h0 ar ca st) s.heap.size) s.heap st s.heap [] := ⟨hP, hD0.self, va_S.rf⟩
  generalize hAe : va_A (RW h0 ar ca st) s.heap.size = A at hp hZ ⊢
  have hA : ∀ q : Nat, s.heap.size ≤ q → A q := fun q h => by rw [← hAe]; exact Or.inr h
  have hl := lv_entry ([.ref h0, .int p0]) (n := 3) (Nat.le_of_ble_eq_true rfl)
  rw [lg_entry_eq]
  generalize (lg_sl ([.ref h0, .int p0]) ++ List.replicate (3 - (lg_sl ([.ref h0, .int p0])).length) Slot.unset).toArray = ls at hl ⊢
  have hl : lv_has ls 3 [(0, .ref h0), (1, .int p0)] := hl
  unfold x9_clear at hf
  refine lv_iload_n hx hb dX9_clear_0 rfl (lv_at hl 1 rfl) ?_
  obtain ⟨r_3, st_1, hc_2, hf⟩ := bnd_some hf
  refine r_ci hp hA (va_runS (As := [.int p0]) (rest := []) ⟨hx, hb, hml, hown, hts⟩ (c_X9_isRecord l dC dI h0 ar ca p0 _ _ _ hc_2 _) (cwS 1 hts gq_X9_clear_X9_isRecord_249 rfl rfl rfl (by decide +kernel) ⟨Nat.le_of_ble_eq_true rfl, Nat.le_of_ble_eq_true rfl⟩) ⟨Pr.blind _, r_pre hp hK hN hZ hA⟩ rfl rfl hl.1 rfl (lv_room (Nat.le_of_ble_eq_true rfl)) dX9_clear_1 ⟨Nat.le_of_ble_eq_true rfl, Nat.le_of_ble_eq_true rfl⟩) (fun H locs hp => ?_)
  refine lv_if_ne (tgt := 9) hx hb dX9_clear_4 (by decide) (fun c_4 => ?_) (fun c_4 => ?_)
  · have hf := pif_f c_4 hf
    refine lv_aload_n hx hb dX9_clear_9 rfl (lv_at hl 0 rfl) ?_
    refine r_ga hx hb hts iRX9 hown hK hp 29 (by decide) (by decide) (hts (.fieldLink RX9 78 "RecordBenchModel" "long0" "[I") (by decide +kernel)) dX9_clear_10 ?_
    refine lv_iload_n hx hb dX9_clear_13 rfl (lv_at hl 1 rfl) ?_
    obtain ⟨g_5, hf⟩ := gd_some hf
    refine r_ai (n := 4) hx hb hK hp 11 29 rfl rfl rfl g_5 dX9_clear_14 ?_
    obtain ⟨v_6, ev_6, hf⟩ := nam_some hf
    refine W_toi (y := v_6) ev_6.symm ?_
    refine lv_istore_n (lv' := [(2, .int v_6), (0, .ref h0), (1, .int p0)]) hx hb dX9_clear_15 rfl hl (by decide) rfl (fun ls hl => ?_)
    refine lv_aload_n hx hb dX9_clear_16 rfl (lv_at hl 1 rfl) ?_
    refine r_ga hx hb hts iRX9 hown hK hp 29 (by decide) (by decide) (hts (.fieldLink RX9 78 "RecordBenchModel" "long0" "[I") (by decide +kernel)) dX9_clear_17 ?_
    refine lv_iload_n hx hb dX9_clear_20 rfl (lv_at hl 2 rfl) ?_
    refine lv_iconst (v := 0) hx hb dX9_clear_21 (by decide) ?_
    obtain ⟨g_7, hf⟩ := gd_some hf
    refine r_si (n := 4) hx hb hK hp 11 29 rfl rfl rfl g_7 dX9_clear_22 (fun H locs hp => ?_)
    obtain ⟨st_8, est_8, hf⟩ := nam_some hf
    rw [← est_8] at hp
    refine lv_iload_n hx hb dX9_clear_23 rfl (lv_at hl 0 rfl) ?_
    obtain ⟨e1, e2⟩ := pr_some hf
    exact W.iret (v := v_6) hx hb hr (fun t ht hW => ⟨⟨v_6, (), rfl, e1, Rp.end e2 hp hK ht hW⟩, hp.2.2.F ht⟩) hp.2.2.2.2 dX9_clear_24
  · have hf := pif_t c_4 hf
    refine lv_iconst (v := (-1)) hx hb dX9_clear_7 (by decide) ?_
    obtain ⟨e1, e2⟩ := pr_some hf
    exact W.iret (v := (-1)) hx hb hr (fun t ht hW => ⟨⟨(-1), (), rfl, e1, Rp.end e2 hp hK ht hW⟩, hp.2.2.F ht⟩) hp.2.2.2.2 dX9_clear_8
noncomputable def x9_load_20  : Nat → Int32 → Int32 → RS → Option (Int32 × RS)
  | 0 => fun _ _ _ => none
  | n + 1 => fun l1 l2 st => pif ((gI st 10) ≤ l2) (gd (vp_in l1 4) (nam (sF st 29 (upd (gF st 29) l1.toNatClampNeg (gI st 10))) (fun st_3 => nam (sI st_3 10 0) (fun st_4 => gd (vp_in l1 4) (some (gF st_4 29 l1.toNatClampNeg, st_4)))))) (gd (vp_in l2 400) (gd (vp_in ((120 * l1) + l2) 480) (nam (sF st 28 (upd (gF st 28) ((120 * l1) + l2).toNatClampNeg (gF st 9 l2.toNatClampNeg))) (fun st_8 => nam (l2 + 1) (fun v_9 => (x9_load_20 n) l1 v_9 st_8)))))
theorem x9_load_20_z  (l1 : Int32) (l2 : Int32) (st : RS) : x9_load_20  0 l1 l2 st = none := rfl
theorem x9_load_20_s  (n : Nat) (l1 : Int32) (l2 : Int32) (st : RS) : x9_load_20  (n + 1) l1 l2 st = pif ((gI st 10) ≤ l2) (gd (vp_in l1 4) (nam (sF st 29 (upd (gF st 29) l1.toNatClampNeg (gI st 10))) (fun st_3 => nam (sI st_3 10 0) (fun st_4 => gd (vp_in l1 4) (some (gF st_4 29 l1.toNatClampNeg, st_4)))))) (gd (vp_in l2 400) (gd (vp_in ((120 * l1) + l2) 480) (nam (sF st 28 (upd (gF st 28) ((120 * l1) + l2).toNatClampNeg (gF st 9 l2.toNatClampNeg))) (fun st_8 => nam (l2 + 1) (fun v_9 => (x9_load_20 n) l1 v_9 st_8))))) := rfl
noncomputable def x9_load (p0 : Int32) (st : RS) : Option (Int32 × RS) := bnd (x9_isRecord p0 st) (fun r_12 st_10 => pif (r_12 = 0) (some (((-1) : Int32), st_10)) (pif ((gI st_10 10) ≤ 120) (x9_load_20  fuel p0 0 st_10) (some (((-1) : Int32), st_10))))
def wq_X9_load : List Cond := .code yX9_load cX9_load 3 (some .int) :: (([.fieldLink RX9 132 "RecordBenchModel" "taped" "I", .fieldLink RX9 78 "RecordBenchModel" "long0" "[I", .fieldLink RX9 75 "RecordBenchModel" "bytes" "[I", .fieldLink RX9 39 "RecordBenchModel" "tape" "[I", .methodLink RX9 249 yX9_isRecord, .static yX9_isRecord, .initialized RX9, .code yX9_isRecord cX9_isRecord 1 (some .boolean)] : List Cond) ++ wsX90)
set_option maxRecDepth 20000 in
theorem gq_X9_load_X9_isRecord_249 : GoodIn wq_X9_load (wsS RX9 249 yX9_isRecord wq_X9_isRecord) := goodIn_app (goodIn_r _ [5, 6, 7] rfl rfl) (goodIn_r _ [8] rfl rfl)
set_option maxHeartbeats 4000000 in
set_option maxRecDepth 100000 in
theorem c_X9_load (l : Launch) (dC : Nat → ClassId) (dI : Nat → Nat → Nat) (h0 : Nat) (ar : Nat → Nat) (ca : Nat → ClassId) (p0 : Int32) (st st' : RS) (r : Int32) (hf : x9_load p0 st = some (r, st')) (sz : Nat) : Met l yX9_load wq_X9_load ({ frames := 1, cells := 0, slots := 0, locals := 24 }) (va_Pc [.ref h0, .int p0] (Pr (dC, dI) (rT ca) [] (RW h0 ar ca st) sz)) (va_Qi (fun r' (_ : Unit) => r' = r) (Bq (dC, dI) (fun _ => RW h0 ar ca st') (fun _ => []) (va_A (RW h0 ar ca st) sz)) (va_A (RW h0 ar ca st) sz)) 0 0 (va_A (RW h0 ar ca st) sz) := by
  refine Met.ofW (cc := cX9_load) (maxL := 3) (ret := (some .int)) (by decide) rfl ?_
  intro p e s m args below meth c s₁ B hml hv
  obtain ⟨rfl, hsz, hP, hK, hD0, hN, hZ, hR⟩ := hv
  have hx := B.exec
  have hb := B.bytes
  have hr := B.returns
  have hts := atoms_spec (ws := wq_X9_load) B.pre
  have hown : s.vm.findClass RX9 = some m.cls := findClass_of_methodNamed B.named
  have iRX9 : ∀ w ∈ u_ws RX9 TX9 60, w ∈ wq_X9_load := fun w h => List.mem_cons_of_mem _ (List.mem_append_right _ h)
  subst hsz
  have hp : Rp (dC, dI) h0 ar ca (va_A (RW h0 ar ca st) s.heap.size) s.heap st s.heap [] := ⟨hP, hD0.self, va_S.rf⟩
  generalize hAe : va_A (RW h0 ar ca st) s.heap.size = A at hp hZ ⊢
  have hA : ∀ q : Nat, s.heap.size ≤ q → A q := fun q h => by rw [← hAe]; exact Or.inr h
  have hl := lv_entry ([.ref h0, .int p0]) (n := 3) (Nat.le_of_ble_eq_true rfl)
  rw [lg_entry_eq]
  generalize (lg_sl ([.ref h0, .int p0]) ++ List.replicate (3 - (lg_sl ([.ref h0, .int p0])).length) Slot.unset).toArray = ls at hl ⊢
  have hl : lv_has ls 3 [(0, .ref h0), (1, .int p0)] := hl
  refine W_lp (fun n20 (u : Int32 × Int32 × RS) H locs ls => match u with | (l1, l2, st) => x9_load_20 n20 l1 l2 st = some (r, st') ∧ Rp (dC, dI) h0 ar ca A s.heap st H locs ∧ lv_has ls 3 [(0, .ref h0), (1, .int l1), (2, .int l2)]) (fun (u : Int32 × Int32 × RS) ls => match u with | (l1, l2, st) => F0 m 20 ls []) ?_ ?_ (fun J20 => ?_)
  · intro u H locs ls hu
    obtain ⟨l1, l2, st⟩ := u
    obtain ⟨hf, hp, hl⟩ := hu
    rw [x9_load_20_z] at hf
    cases hf
  · intro n20 ih20 u H locs ls hu
    obtain ⟨l1, l2, st⟩ := u
    obtain ⟨hf, hp, hl⟩ := hu
    show W p l e _ s m _ below meth c _ _ _ _ _ (F0 m 20 ls [])
    rw [x9_load_20_s] at hf
    refine lv_iload_n hx hb dX9_load_20 rfl (lv_at hl 2 rfl) ?_
    refine lv_aload_n hx hb dX9_load_21 rfl (lv_at hl 0 rfl) ?_
    refine r_gi hx hb hts iRX9 hown hK hp 10 (by decide) rfl (hts (.fieldLink RX9 132 "RecordBenchModel" "taped" "I") (by decide +kernel)) dX9_load_22 ?_
    refine lv_icmp_ge (tgt := 51) hx hb dX9_load_25 (by decide) (fun c_1 => ?_) (fun c_1 => ?_)
    · have hf := pif_t c_1 hf
      refine lv_aload_n hx hb dX9_load_51 rfl (lv_at hl 0 rfl) ?_
      refine r_ga hx hb hts iRX9 hown hK hp 29 (by decide) (by decide) (hts (.fieldLink RX9 78 "RecordBenchModel" "long0" "[I") (by decide +kernel)) dX9_load_52 ?_
      refine lv_iload_n hx hb dX9_load_55 rfl (lv_at hl 1 rfl) ?_
      refine lv_aload_n hx hb dX9_load_56 rfl (lv_at hl 0 rfl) ?_
      refine r_gi hx hb hts iRX9 hown hK hp 10 (by decide) rfl (hts (.fieldLink RX9 132 "RecordBenchModel" "taped" "I") (by decide +kernel)) dX9_load_57 ?_
      obtain ⟨g_2, hf⟩ := gd_some hf
      refine r_si (n := 4) hx hb hK hp 11 29 rfl rfl rfl g_2 dX9_load_60 (fun H locs hp => ?_)
      obtain ⟨st_3, est_3, hf⟩ := nam_some hf
      rw [← est_3] at hp
      refine lv_aload_n hx hb dX9_load_61 rfl (lv_at hl 0 rfl) ?_
      refine lv_iconst (v := 0) hx hb dX9_load_62 (by decide) ?_
      refine r_pi (v := 0) (ty := .int) hx hb hts iRX9 hown hK hp 10 (by decide) rfl (hts (.fieldLink RX9 132 "RecordBenchModel" "taped" "I") (by decide +kernel)) rfl (by decide +kernel) rfl rfl dX9_load_63 (fun H locs hp => ?_)
      obtain ⟨st_4, est_4, hf⟩ := nam_some hf
      rw [← est_4] at hp
      refine lv_aload_n hx hb dX9_load_66 rfl (lv_at hl 0 rfl) ?_
      refine r_ga hx hb hts iRX9 hown hK hp 29 (by decide) (by decide) (hts (.fieldLink RX9 78 "RecordBenchModel" "long0" "[I") (by decide +kernel)) dX9_load_67 ?_
      refine lv_iload_n hx hb dX9_load_70 rfl (lv_at hl 1 rfl) ?_
      obtain ⟨g_5, hf⟩ := gd_some hf
      refine r_ai (n := 4) hx hb hK hp 11 29 rfl rfl rfl g_5 dX9_load_71 ?_
      obtain ⟨e1, e2⟩ := pr_some hf
      exact W.iret (v := gF st_4 29 l1.toNatClampNeg) hx hb hr (fun t ht hW => ⟨⟨gF st_4 29 l1.toNatClampNeg, (), rfl, e1, Rp.end e2 hp hK ht hW⟩, hp.2.2.F ht⟩) hp.2.2.2.2 dX9_load_72
    · have hf := pif_f c_1 hf
      refine lv_aload_n hx hb dX9_load_28 rfl (lv_at hl 0 rfl) ?_
      refine r_ga hx hb hts iRX9 hown hK hp 28 (by decide) (by decide) (hts (.fieldLink RX9 75 "RecordBenchModel" "bytes" "[I") (by decide +kernel)) dX9_load_29 ?_
      refine lv_bipush (v := 120) hx hb dX9_load_32 (by decide) ?_
      refine lv_iload_n hx hb dX9_load_34 rfl (lv_at hl 1 rfl) ?_
      refine lv_imul hx hb dX9_load_35 ?_
      refine lv_iload_n hx hb dX9_load_36 rfl (lv_at hl 2 rfl) ?_
      refine lv_iadd hx hb dX9_load_37 ?_
      refine lv_aload_n hx hb dX9_load_38 rfl (lv_at hl 0 rfl) ?_
      refine r_ga hx hb hts iRX9 hown hK hp 9 (by decide) (by decide) (hts (.fieldLink RX9 39 "RecordBenchModel" "tape" "[I") (by decide +kernel)) dX9_load_39 ?_
      refine lv_iload_n hx hb dX9_load_42 rfl (lv_at hl 2 rfl) ?_
      obtain ⟨g_6, hf⟩ := gd_some hf
      refine r_ai (n := 400) hx hb hK hp 9 9 rfl rfl rfl g_6 dX9_load_43 ?_
      obtain ⟨g_7, hf⟩ := gd_some hf
      refine r_si (n := 480) hx hb hK hp 10 28 rfl rfl rfl g_7 dX9_load_44 (fun H locs hp => ?_)
      obtain ⟨st_8, est_8, hf⟩ := nam_some hf
      rw [← est_8] at hp
      obtain ⟨v_9, ev_9, hf⟩ := nam_some hf
      refine lv_iinc (v := v_9) (lv' := [(2, .int v_9), (0, .ref h0), (1, .int l1)]) hx hb dX9_load_45 hl (k := 2) rfl ev_9.symm (by decide) rfl (fun ls hl => ?_)
      refine lv_goto (tgt := 20) hx hb dX9_load_48 (by decide) ?_
      exact ih20 (l1, v_9, st_8) _ _ _ ⟨hf, hp, (lv_sub hl [1, 2, 0] rfl)⟩
  unfold x9_load at hf
  refine lv_iload_n hx hb dX9_load_0 rfl (lv_at hl 1 rfl) ?_
  obtain ⟨r_12, st_10, hc_11, hf⟩ := bnd_some hf
  refine r_ci hp hA (va_runS (As := [.int p0]) (rest := []) ⟨hx, hb, hml, hown, hts⟩ (c_X9_isRecord l dC dI h0 ar ca p0 _ _ _ hc_11 _) (cwS 1 hts gq_X9_load_X9_isRecord_249 rfl rfl rfl (by decide +kernel) ⟨Nat.le_of_ble_eq_true rfl, Nat.le_of_ble_eq_true rfl⟩) ⟨Pr.blind _, r_pre hp hK hN hZ hA⟩ rfl rfl hl.1 rfl (lv_room (Nat.le_of_ble_eq_true rfl)) dX9_load_1 ⟨Nat.le_of_ble_eq_true rfl, Nat.le_of_ble_eq_true rfl⟩) (fun H locs hp => ?_)
  refine lv_if_eq (tgt := 16) hx hb dX9_load_4 (by decide) (fun c_13 => ?_) (fun c_13 => ?_)
  · have hf := pif_t c_13 hf
    refine lv_iconst (v := (-1)) hx hb dX9_load_16 (by decide) ?_
    obtain ⟨e1, e2⟩ := pr_some hf
    exact W.iret (v := (-1)) hx hb hr (fun t ht hW => ⟨⟨(-1), (), rfl, e1, Rp.end e2 hp hK ht hW⟩, hp.2.2.F ht⟩) hp.2.2.2.2 dX9_load_17
  · have hf := pif_f c_13 hf
    refine lv_aload_n hx hb dX9_load_7 rfl (lv_at hl 0 rfl) ?_
    refine r_gi hx hb hts iRX9 hown hK hp 10 (by decide) rfl (hts (.fieldLink RX9 132 "RecordBenchModel" "taped" "I") (by decide +kernel)) dX9_load_8 ?_
    refine lv_bipush (v := 120) hx hb dX9_load_11 (by decide) ?_
    refine lv_icmp_le (tgt := 18) hx hb dX9_load_13 (by decide) (fun c_14 => ?_) (fun c_14 => ?_)
    · have hf := pif_t c_14 hf
      refine lv_iconst (v := 0) hx hb dX9_load_18 (by decide) ?_
      refine lv_istore_n (lv' := [(2, .int 0), (0, .ref h0), (1, .int p0)]) hx hb dX9_load_19 rfl hl (by decide) rfl (fun ls hl => ?_)
      exact J20 fuel (p0, 0, st_10) _ _ _ ⟨hf, hp, (lv_sub hl [1, 2, 0] rfl)⟩
    · have hf := pif_f c_14 hf
      refine lv_iconst (v := (-1)) hx hb dX9_load_16 (by decide) ?_
      obtain ⟨e1, e2⟩ := pr_some hf
      exact W.iret (v := (-1)) hx hb hr (fun t ht hW => ⟨⟨(-1), (), rfl, e1, Rp.end e2 hp hK ht hW⟩, hp.2.2.F ht⟩) hp.2.2.2.2 dX9_load_17
noncomputable def x9_at (p0 : Int32) (p1 : Int32) (st : RS) : Option (Int32 × RS) := bnd (x9_isRecord p0 st) (fun r_3 st_1 => pif (r_3 = 0) (some (((-1) : Int32), st_1)) (pif (p1 < 0) (some (((-1) : Int32), st_1)) (gd (vp_in p0 4) (pif ((gF st_1 29 p0.toNatClampNeg) ≤ p1) (some (((-1) : Int32), st_1)) (gd (vp_in ((120 * p0) + p1) 480) (some (gF st_1 28 ((120 * p0) + p1).toNatClampNeg, st_1)))))))
def wq_X9_at : List Cond := .code yX9_at cX9_at 3 (some .int) :: (([.fieldLink RX9 78 "RecordBenchModel" "long0" "[I", .fieldLink RX9 75 "RecordBenchModel" "bytes" "[I", .methodLink RX9 249 yX9_isRecord, .static yX9_isRecord, .initialized RX9, .code yX9_isRecord cX9_isRecord 1 (some .boolean)] : List Cond) ++ wsX90)
set_option maxRecDepth 20000 in
theorem gq_X9_at_X9_isRecord_249 : GoodIn wq_X9_at (wsS RX9 249 yX9_isRecord wq_X9_isRecord) := goodIn_app (goodIn_r _ [3, 4, 5] rfl rfl) (goodIn_r _ [6] rfl rfl)
set_option maxHeartbeats 4000000 in
set_option maxRecDepth 100000 in
theorem c_X9_at (l : Launch) (dC : Nat → ClassId) (dI : Nat → Nat → Nat) (h0 : Nat) (ar : Nat → Nat) (ca : Nat → ClassId) (p0 : Int32) (p1 : Int32) (st st' : RS) (r : Int32) (hf : x9_at p0 p1 st = some (r, st')) (sz : Nat) : Met l yX9_at wq_X9_at ({ frames := 1, cells := 0, slots := 0, locals := 24 }) (va_Pc [.ref h0, .int p0, .int p1] (Pr (dC, dI) (rT ca) [] (RW h0 ar ca st) sz)) (va_Qi (fun r' (_ : Unit) => r' = r) (Bq (dC, dI) (fun _ => RW h0 ar ca st') (fun _ => []) (va_A (RW h0 ar ca st) sz)) (va_A (RW h0 ar ca st) sz)) 0 0 (va_A (RW h0 ar ca st) sz) := by
  refine Met.ofW (cc := cX9_at) (maxL := 3) (ret := (some .int)) (by decide) rfl ?_
  intro p e s m args below meth c s₁ B hml hv
  obtain ⟨rfl, hsz, hP, hK, hD0, hN, hZ, hR⟩ := hv
  have hx := B.exec
  have hb := B.bytes
  have hr := B.returns
  have hts := atoms_spec (ws := wq_X9_at) B.pre
  have hown : s.vm.findClass RX9 = some m.cls := findClass_of_methodNamed B.named
  have iRX9 : ∀ w ∈ u_ws RX9 TX9 60, w ∈ wq_X9_at := fun w h => List.mem_cons_of_mem _ (List.mem_append_right _ h)
  subst hsz
  have hp : Rp (dC, dI) h0 ar ca (va_A (RW h0 ar ca st) s.heap.size) s.heap st s.heap [] := ⟨hP, hD0.self, va_S.rf⟩
  generalize hAe : va_A (RW h0 ar ca st) s.heap.size = A at hp hZ ⊢
  have hA : ∀ q : Nat, s.heap.size ≤ q → A q := fun q h => by rw [← hAe]; exact Or.inr h
  have hl := lv_entry ([.ref h0, .int p0, .int p1]) (n := 3) (Nat.le_of_ble_eq_true rfl)
  rw [lg_entry_eq]
  generalize (lg_sl ([.ref h0, .int p0, .int p1]) ++ List.replicate (3 - (lg_sl ([.ref h0, .int p0, .int p1])).length) Slot.unset).toArray = ls at hl ⊢
  have hl : lv_has ls 3 [(0, .ref h0), (1, .int p0), (2, .int p1)] := hl
  unfold x9_at at hf
  refine lv_iload_n hx hb dX9_at_0 rfl (lv_at hl 1 rfl) ?_
  obtain ⟨r_3, st_1, hc_2, hf⟩ := bnd_some hf
  refine r_ci hp hA (va_runS (As := [.int p0]) (rest := []) ⟨hx, hb, hml, hown, hts⟩ (c_X9_isRecord l dC dI h0 ar ca p0 _ _ _ hc_2 _) (cwS 1 hts gq_X9_at_X9_isRecord_249 rfl rfl rfl (by decide +kernel) ⟨Nat.le_of_ble_eq_true rfl, Nat.le_of_ble_eq_true rfl⟩) ⟨Pr.blind _, r_pre hp hK hN hZ hA⟩ rfl rfl hl.1 rfl (lv_room (Nat.le_of_ble_eq_true rfl)) dX9_at_1 ⟨Nat.le_of_ble_eq_true rfl, Nat.le_of_ble_eq_true rfl⟩) (fun H locs hp => ?_)
  refine lv_if_eq (tgt := 35) hx hb dX9_at_4 (by decide) (fun c_4 => ?_) (fun c_4 => ?_)
  · have hf := pif_t c_4 hf
    refine lv_iconst (v := (-1)) hx hb dX9_at_35 (by decide) ?_
    obtain ⟨e1, e2⟩ := pr_some hf
    exact W.iret (v := (-1)) hx hb hr (fun t ht hW => ⟨⟨(-1), (), rfl, e1, Rp.end e2 hp hK ht hW⟩, hp.2.2.F ht⟩) hp.2.2.2.2 dX9_at_36
  · have hf := pif_f c_4 hf
    refine lv_iload_n hx hb dX9_at_7 rfl (lv_at hl 2 rfl) ?_
    refine lv_if_lt (tgt := 35) hx hb dX9_at_8 (by decide) (fun c_5 => ?_) (fun c_5 => ?_)
    · have hf := pif_t c_5 hf
      refine lv_iconst (v := (-1)) hx hb dX9_at_35 (by decide) ?_
      obtain ⟨e1, e2⟩ := pr_some hf
      exact W.iret (v := (-1)) hx hb hr (fun t ht hW => ⟨⟨(-1), (), rfl, e1, Rp.end e2 hp hK ht hW⟩, hp.2.2.F ht⟩) hp.2.2.2.2 dX9_at_36
    · have hf := pif_f c_5 hf
      refine lv_iload_n hx hb dX9_at_11 rfl (lv_at hl 2 rfl) ?_
      refine lv_aload_n hx hb dX9_at_12 rfl (lv_at hl 0 rfl) ?_
      refine r_ga hx hb hts iRX9 hown hK hp 29 (by decide) (by decide) (hts (.fieldLink RX9 78 "RecordBenchModel" "long0" "[I") (by decide +kernel)) dX9_at_13 ?_
      refine lv_iload_n hx hb dX9_at_16 rfl (lv_at hl 1 rfl) ?_
      obtain ⟨g_6, hf⟩ := gd_some hf
      refine r_ai (n := 4) hx hb hK hp 11 29 rfl rfl rfl g_6 dX9_at_17 ?_
      refine lv_icmp_ge (tgt := 35) hx hb dX9_at_18 (by decide) (fun c_7 => ?_) (fun c_7 => ?_)
      · have hf := pif_t c_7 hf
        refine lv_iconst (v := (-1)) hx hb dX9_at_35 (by decide) ?_
        obtain ⟨e1, e2⟩ := pr_some hf
        exact W.iret (v := (-1)) hx hb hr (fun t ht hW => ⟨⟨(-1), (), rfl, e1, Rp.end e2 hp hK ht hW⟩, hp.2.2.F ht⟩) hp.2.2.2.2 dX9_at_36
      · have hf := pif_f c_7 hf
        refine lv_aload_n hx hb dX9_at_21 rfl (lv_at hl 0 rfl) ?_
        refine r_ga hx hb hts iRX9 hown hK hp 28 (by decide) (by decide) (hts (.fieldLink RX9 75 "RecordBenchModel" "bytes" "[I") (by decide +kernel)) dX9_at_22 ?_
        refine lv_bipush (v := 120) hx hb dX9_at_25 (by decide) ?_
        refine lv_iload_n hx hb dX9_at_27 rfl (lv_at hl 1 rfl) ?_
        refine lv_imul hx hb dX9_at_28 ?_
        refine lv_iload_n hx hb dX9_at_29 rfl (lv_at hl 2 rfl) ?_
        refine lv_iadd hx hb dX9_at_30 ?_
        obtain ⟨g_8, hf⟩ := gd_some hf
        refine r_ai (n := 480) hx hb hK hp 10 28 rfl rfl rfl g_8 dX9_at_31 ?_
        refine lv_goto (tgt := 36) hx hb dX9_at_32 (by decide) ?_
        obtain ⟨e1, e2⟩ := pr_some hf
        exact W.iret (v := gF st_1 28 ((120 * p0) + p1).toNatClampNeg) hx hb hr (fun t ht hW => ⟨⟨gF st_1 28 ((120 * p0) + p1).toNatClampNeg, (), rfl, e1, Rp.end e2 hp hK ht hW⟩, hp.2.2.F ht⟩) hp.2.2.2.2 dX9_at_36
noncomputable def x9_varint_48 (k7 : Int32 → Int32 → Int32 → RS → Option (Int32 × RS)) (l1 : Int32) (l2 : Int32) (l3 : Int32) (l4 : Int64) (st : RS) : Option (Int32 × RS) := nam (sJ st 31 ((gJ st 31) ||| ((l4 &&& 127) <<< ((7 * l3).toInt64 &&& 63)))) (fun st_1 => pif (0 ≤ (lg_cmp l4 (128 : Int64))) (nam (l3 + 1) (fun v_3 => k7 l1 l2 v_3 st_1)) (nam (sI st_1 32 ((l1 + l3) + 1)) (fun st_4 => some ((1 : Int32), st_4))))
noncomputable def x9_varint_7  : Nat → Int32 → Int32 → Int32 → RS → Option (Int32 × RS)
  | 0 => fun _ _ _ _ => none
  | n + 1 => fun l1 l2 l3 st => pif (10 ≤ l3) (some ((0 : Int32), st)) (pif ((l1 + l3) < l2) (gd (vp_in (l1 + l3) 160) (nam ((gF st 30 (l1 + l3).toNatClampNeg).toInt64) (fun v_8 => pif (l3 = 9) (pif ((lg_cmp v_8 (1 : Int64)) ≤ 0) (x9_varint_48 (x9_varint_7 n) l1 l2 l3 v_8 st) (some ((0 : Int32), st))) (x9_varint_48 (x9_varint_7 n) l1 l2 l3 v_8 st)))) (some ((0 : Int32), st)))
theorem x9_varint_7_z  (l1 : Int32) (l2 : Int32) (l3 : Int32) (st : RS) : x9_varint_7  0 l1 l2 l3 st = none := rfl
theorem x9_varint_7_s  (n : Nat) (l1 : Int32) (l2 : Int32) (l3 : Int32) (st : RS) : x9_varint_7  (n + 1) l1 l2 l3 st = pif (10 ≤ l3) (some ((0 : Int32), st)) (pif ((l1 + l3) < l2) (gd (vp_in (l1 + l3) 160) (nam ((gF st 30 (l1 + l3).toNatClampNeg).toInt64) (fun v_8 => pif (l3 = 9) (pif ((lg_cmp v_8 (1 : Int64)) ≤ 0) (x9_varint_48 (x9_varint_7 n) l1 l2 l3 v_8 st) (some ((0 : Int32), st))) (x9_varint_48 (x9_varint_7 n) l1 l2 l3 v_8 st)))) (some ((0 : Int32), st))) := rfl
noncomputable def x9_varint (p0 : Int32) (p1 : Int32) (st : RS) : Option (Int32 × RS) := nam (sJ st 31 0) (fun st_11 => x9_varint_7  fuel p0 p1 0 st_11)
def wq_X9_varint : List Cond := .code yX9_varint cX9_varint 6 (some .boolean) :: (([.fieldLink RX9 252 "RecordBenchModel" "varint" "J", .fieldLink RX9 81 "RecordBenchModel" "row" "[I", .constantLong RX9 217 (127), .constantLong RX9 255 (128), .fieldLink RX9 257 "RecordBenchModel" "varintEnd" "I"] : List Cond) ++ wsX90)
set_option maxHeartbeats 4000000 in
set_option maxRecDepth 100000 in
theorem c_X9_varint (l : Launch) (dC : Nat → ClassId) (dI : Nat → Nat → Nat) (h0 : Nat) (ar : Nat → Nat) (ca : Nat → ClassId) (p0 : Int32) (p1 : Int32) (st st' : RS) (r : Int32) (hf : x9_varint p0 p1 st = some (r, st')) (sz : Nat) : Met l yX9_varint wq_X9_varint ({ frames := 0, cells := 0, slots := 0, locals := 0 }) (va_Pc [.ref h0, .int p0, .int p1] (Pr (dC, dI) (rT ca) [] (RW h0 ar ca st) sz)) (va_Qi (fun r' (_ : Unit) => r' = r) (Bq (dC, dI) (fun _ => RW h0 ar ca st') (fun _ => []) (va_A (RW h0 ar ca st) sz)) (va_A (RW h0 ar ca st) sz)) 0 0 (va_A (RW h0 ar ca st) sz) := by
  refine Met.ofW (cc := cX9_varint) (maxL := 6) (ret := (some .boolean)) (by decide) rfl ?_
  intro p e s m args below meth c s₁ B hml hv
  obtain ⟨rfl, hsz, hP, hK, hD0, hN, hZ, hR⟩ := hv
  have hx := B.exec
  have hb := B.bytes
  have hr := B.returns
  have hts := atoms_spec (ws := wq_X9_varint) B.pre
  have hown : s.vm.findClass RX9 = some m.cls := findClass_of_methodNamed B.named
  have iRX9 : ∀ w ∈ u_ws RX9 TX9 60, w ∈ wq_X9_varint := fun w h => List.mem_cons_of_mem _ (List.mem_append_right _ h)
  subst hsz
  have hp : Rp (dC, dI) h0 ar ca (va_A (RW h0 ar ca st) s.heap.size) s.heap st s.heap [] := ⟨hP, hD0.self, va_S.rf⟩
  generalize hAe : va_A (RW h0 ar ca st) s.heap.size = A at hp hZ ⊢
  have hA : ∀ q : Nat, s.heap.size ≤ q → A q := fun q h => by rw [← hAe]; exact Or.inr h
  have hl := lv_entry ([.ref h0, .int p0, .int p1]) (n := 6) (Nat.le_of_ble_eq_true rfl)
  rw [lg_entry_eq]
  generalize (lg_sl ([.ref h0, .int p0, .int p1]) ++ List.replicate (6 - (lg_sl ([.ref h0, .int p0, .int p1])).length) Slot.unset).toArray = ls at hl ⊢
  have hl : lv_has ls 6 [(0, .ref h0), (1, .int p0), (2, .int p1)] := hl
  refine W_lp (fun n7 (u : Int32 × Int32 × Int32 × RS) H locs ls => match u with | (l1, l2, l3, st) => x9_varint_7 n7 l1 l2 l3 st = some (r, st') ∧ Rp (dC, dI) h0 ar ca A s.heap st H locs ∧ lv_has ls 6 [(0, .ref h0), (1, .int l1), (2, .int l2), (3, .int l3)]) (fun (u : Int32 × Int32 × Int32 × RS) ls => match u with | (l1, l2, l3, st) => F0 m 7 ls []) ?_ ?_ (fun J7 => ?_)
  · intro u H locs ls hu
    obtain ⟨l1, l2, l3, st⟩ := u
    obtain ⟨hf, hp, hl⟩ := hu
    rw [x9_varint_7_z] at hf
    cases hf
  · intro n7 ih7 u H locs ls hu
    obtain ⟨l1, l2, l3, st⟩ := u
    obtain ⟨hf, hp, hl⟩ := hu
    show W p l e _ s m _ below meth c _ _ _ _ _ (F0 m 7 ls [])
    refine W_blk (fun (u : Int32 × Int32 × Int32 × Int64 × RS) H locs ls => match u with | (l1, l2, l3, l4, st) => x9_varint_48 (x9_varint_7 n7) l1 l2 l3 l4 st = some (r, st') ∧ Rp (dC, dI) h0 ar ca A s.heap st H locs ∧ lv_has ls 6 [(0, .ref h0), (1, .int l1), (2, .int l2), (3, .int l3), (4, .long l4)]) (fun (u : Int32 × Int32 × Int32 × Int64 × RS) ls => match u with | (l1, l2, l3, l4, st) => F0 m 48 ls []) ?_ (fun J48 => ?_)
    · intro u H locs ls hu
      obtain ⟨l1, l2, l3, l4, st⟩ := u
      obtain ⟨hf, hp, hl⟩ := hu
      show W p l e _ s m _ below meth c _ _ _ _ _ (F0 m 48 ls [])
      unfold x9_varint_48 at hf
      refine lv_aload_n hx hb dX9_varint_48 rfl (lv_at hl 0 rfl) ?_
      refine lv_dup hx hb dX9_varint_49 rfl ?_
      refine r_gj hx hb hts iRX9 hown hK hp 31 (by decide) rfl (hts (.fieldLink RX9 252 "RecordBenchModel" "varint" "J") (by decide +kernel)) dX9_varint_50 ?_
      refine lv_lload hx hb dX9_varint_53 (lv_at hl 4 rfl) ?_
      refine lv_ldc2 hx hb hown (hts (.constantLong RX9 217 (127)) (by decide +kernel)) dX9_varint_55 ?_
      refine lv_land hx hb dX9_varint_58 ?_
      refine lv_bipush (v := 7) hx hb dX9_varint_59 (by decide) ?_
      refine lv_iload_n hx hb dX9_varint_61 rfl (lv_at hl 3 rfl) ?_
      refine lv_imul hx hb dX9_varint_62 ?_
      refine lv_lshl (v := (l4 &&& 127) <<< ((7 * l3).toInt64 &&& 63)) hx hb dX9_varint_63 rfl ?_
      refine lv_lor hx hb dX9_varint_64 ?_
      refine r_pj (v := (gJ st 31) ||| ((l4 &&& 127) <<< ((7 * l3).toInt64 &&& 63))) (ty := .long) hx hb hts iRX9 hown hK hp 31 (by decide) rfl (hts (.fieldLink RX9 252 "RecordBenchModel" "varint" "J") (by decide +kernel)) rfl (by decide +kernel) rfl rfl dX9_varint_65 (fun H locs hp => ?_)
      obtain ⟨st_1, est_1, hf⟩ := nam_some hf
      rw [← est_1] at hp
      refine lv_lload hx hb dX9_varint_68 (lv_at hl 4 rfl) ?_
      refine lv_ldc2 hx hb hown (hts (.constantLong RX9 255 (128)) (by decide +kernel)) dX9_varint_70 ?_
      refine W.lcmp hx hb dX9_varint_73 ?_
      refine lv_if_ge (tgt := 88) hx hb dX9_varint_74 (by decide) (fun c_2 => ?_) (fun c_2 => ?_)
      · have hf := pif_t c_2 hf
        obtain ⟨v_3, ev_3, hf⟩ := nam_some hf
        refine lv_iinc (v := v_3) (lv' := [(3, .int v_3), (0, .ref h0), (1, .int l1), (2, .int l2), (4, .long l4)]) hx hb dX9_varint_88 hl (k := 3) rfl ev_3.symm (by decide) rfl (fun ls hl => ?_)
        refine lv_goto (tgt := 7) hx hb dX9_varint_91 (by decide) ?_
        exact ih7 (l1, l2, v_3, st_1) _ _ _ ⟨hf, hp, (lv_sub hl [1, 2, 3, 0] rfl)⟩
      · have hf := pif_f c_2 hf
        refine lv_aload_n hx hb dX9_varint_77 rfl (lv_at hl 0 rfl) ?_
        refine lv_iload_n hx hb dX9_varint_78 rfl (lv_at hl 1 rfl) ?_
        refine lv_iload_n hx hb dX9_varint_79 rfl (lv_at hl 3 rfl) ?_
        refine lv_iadd hx hb dX9_varint_80 ?_
        refine lv_iconst (v := 1) hx hb dX9_varint_81 (by decide) ?_
        refine lv_iadd hx hb dX9_varint_82 ?_
        refine r_pi (v := (l1 + l3) + 1) (ty := .int) hx hb hts iRX9 hown hK hp 32 (by decide) rfl (hts (.fieldLink RX9 257 "RecordBenchModel" "varintEnd" "I") (by decide +kernel)) rfl (by decide +kernel) rfl rfl dX9_varint_83 (fun H locs hp => ?_)
        obtain ⟨st_4, est_4, hf⟩ := nam_some hf
        rw [← est_4] at hp
        refine lv_iconst (v := 1) hx hb dX9_varint_86 (by decide) ?_
        obtain ⟨e1, e2⟩ := pr_some hf
        exact W.zret (v := 1) hx hb hr rfl (fun t ht hW => ⟨⟨1, (), rfl, e1, Rp.end e2 hp hK ht hW⟩, hp.2.2.F ht⟩) hp.2.2.2.2 dX9_varint_87
    rw [x9_varint_7_s] at hf
    refine lv_iload_n hx hb dX9_varint_7 rfl (lv_at hl 3 rfl) ?_
    refine lv_bipush (v := 10) hx hb dX9_varint_8 (by decide) ?_
    refine lv_icmp_ge (tgt := 94) hx hb dX9_varint_10 (by decide) (fun c_5 => ?_) (fun c_5 => ?_)
    · have hf := pif_t c_5 hf
      refine lv_iconst (v := 0) hx hb dX9_varint_94 (by decide) ?_
      obtain ⟨e1, e2⟩ := pr_some hf
      exact W.zret (v := 0) hx hb hr rfl (fun t ht hW => ⟨⟨0, (), rfl, e1, Rp.end e2 hp hK ht hW⟩, hp.2.2.F ht⟩) hp.2.2.2.2 dX9_varint_95
    · have hf := pif_f c_5 hf
      refine lv_iload_n hx hb dX9_varint_13 rfl (lv_at hl 1 rfl) ?_
      refine lv_iload_n hx hb dX9_varint_14 rfl (lv_at hl 3 rfl) ?_
      refine lv_iadd hx hb dX9_varint_15 ?_
      refine lv_iload_n hx hb dX9_varint_16 rfl (lv_at hl 2 rfl) ?_
      refine lv_icmp_lt (tgt := 22) hx hb dX9_varint_17 (by decide) (fun c_6 => ?_) (fun c_6 => ?_)
      · have hf := pif_t c_6 hf
        refine lv_aload_n hx hb dX9_varint_22 rfl (lv_at hl 0 rfl) ?_
        refine r_ga hx hb hts iRX9 hown hK hp 30 (by decide) (by decide) (hts (.fieldLink RX9 81 "RecordBenchModel" "row" "[I") (by decide +kernel)) dX9_varint_23 ?_
        refine lv_iload_n hx hb dX9_varint_26 rfl (lv_at hl 1 rfl) ?_
        refine lv_iload_n hx hb dX9_varint_27 rfl (lv_at hl 3 rfl) ?_
        refine lv_iadd hx hb dX9_varint_28 ?_
        obtain ⟨g_7, hf⟩ := gd_some hf
        refine r_ai (n := 160) hx hb hK hp 12 30 rfl rfl rfl g_7 dX9_varint_29 ?_
        refine lv_i2l (v := (gF st 30 (l1 + l3).toNatClampNeg).toInt64) hx hb dX9_varint_30 rfl ?_
        obtain ⟨v_8, ev_8, hf⟩ := nam_some hf
        refine W_tol (y := v_8) ev_8.symm ?_
        refine lv_lstore (lv' := [(4, .long v_8), (0, .ref h0), (1, .int l1), (2, .int l2), (3, .int l3)]) hx hb dX9_varint_31 hl (by decide) rfl (fun ls hl => ?_)
        refine lv_iload_n hx hb dX9_varint_33 rfl (lv_at hl 4 rfl) ?_
        refine lv_bipush (v := 9) hx hb dX9_varint_34 (by decide) ?_
        refine lv_icmp_ne (tgt := 48) hx hb dX9_varint_36 (by decide) (fun c_9 => ?_) (fun c_9 => ?_)
        · have hf := pif_f c_9 hf
          exact J48 (l1, l2, l3, v_8, st) _ _ _ ⟨hf, hp, (lv_sub hl [1, 2, 3, 4, 0] rfl)⟩
        · have hf := pif_t c_9 hf
          refine lv_lload hx hb dX9_varint_39 (lv_at hl 0 rfl) ?_
          refine lv_lconst (v := 1) hx hb dX9_varint_41 (by decide) ?_
          refine W.lcmp hx hb dX9_varint_42 ?_
          refine lv_if_le (tgt := 48) hx hb dX9_varint_43 (by decide) (fun c_10 => ?_) (fun c_10 => ?_)
          · have hf := pif_t c_10 hf
            exact J48 (l1, l2, l3, v_8, st) _ _ _ ⟨hf, hp, (lv_sub hl [1, 2, 3, 4, 0] rfl)⟩
          · have hf := pif_f c_10 hf
            refine lv_iconst (v := 0) hx hb dX9_varint_46 (by decide) ?_
            obtain ⟨e1, e2⟩ := pr_some hf
            exact W.zret (v := 0) hx hb hr rfl (fun t ht hW => ⟨⟨0, (), rfl, e1, Rp.end e2 hp hK ht hW⟩, hp.2.2.F ht⟩) hp.2.2.2.2 dX9_varint_47
      · have hf := pif_f c_6 hf
        refine lv_iconst (v := 0) hx hb dX9_varint_20 (by decide) ?_
        obtain ⟨e1, e2⟩ := pr_some hf
        exact W.zret (v := 0) hx hb hr rfl (fun t ht hW => ⟨⟨0, (), rfl, e1, Rp.end e2 hp hK ht hW⟩, hp.2.2.F ht⟩) hp.2.2.2.2 dX9_varint_21
  unfold x9_varint at hf
  refine lv_aload_n hx hb dX9_varint_0 rfl (lv_at hl 0 rfl) ?_
  refine lv_lconst (v := 0) hx hb dX9_varint_1 (by decide) ?_
  refine r_pj (v := 0) (ty := .long) hx hb hts iRX9 hown hK hp 31 (by decide) rfl (hts (.fieldLink RX9 252 "RecordBenchModel" "varint" "J") (by decide +kernel)) rfl (by decide +kernel) rfl rfl dX9_varint_2 (fun H locs hp => ?_)
  obtain ⟨st_11, est_11, hf⟩ := nam_some hf
  rw [← est_11] at hp
  refine lv_iconst (v := 0) hx hb dX9_varint_5 (by decide) ?_
  refine lv_istore_n (lv' := [(3, .int 0), (0, .ref h0), (1, .int p0), (2, .int p1)]) hx hb dX9_varint_6 rfl hl (by decide) rfl (fun ls hl => ?_)
  exact J7 fuel (p0, p1, 0, st_11) _ _ _ ⟨hf, hp, (lv_sub hl [1, 2, 3, 0] rfl)⟩
noncomputable def x9_opens (p0 : Int32) (p1 : Int32) (p2 : Int32) (p3 : Int32) (st : RS) : Option (RS) := gd (vp_in p0 9) (nam (sF st 47 (upd (gF st 47) p0.toNatClampNeg p1)) (fun st_2 => gd (vp_in p0 9) (nam (sF st_2 48 (upd (gF st_2 48) p0.toNatClampNeg p2)) (fun st_4 => gd (vp_in p0 9) (nam (sF st_4 49 (upd (gF st_4 49) p0.toNatClampNeg p3)) (fun st_6 => gd (vp_in p0 9) (nam (sF st_6 50 (upd (gF st_6 50) p0.toNatClampNeg 0)) (fun st_8 => gd (vp_in p0 9) (nam (sF st_8 51 (upd (gF st_8 51) p0.toNatClampNeg 0)) (fun st_10 => some st_10))))))))))
def wq_X9_opens : List Cond := .code yX9_opens cX9_opens 5 none :: (([.fieldLink RX9 99 "RecordBenchModel" "pileMake" "[I", .fieldLink RX9 102 "RecordBenchModel" "pileAt" "[I", .fieldLink RX9 105 "RecordBenchModel" "pileEnd" "[I", .fieldLink RX9 108 "RecordBenchModel" "pileLast" "[I", .fieldLink RX9 111 "RecordBenchModel" "pileGroups" "[I"] : List Cond) ++ wsX90)
set_option maxHeartbeats 4000000 in
set_option maxRecDepth 100000 in
theorem c_X9_opens (l : Launch) (dC : Nat → ClassId) (dI : Nat → Nat → Nat) (h0 : Nat) (ar : Nat → Nat) (ca : Nat → ClassId) (p0 : Int32) (p1 : Int32) (p2 : Int32) (p3 : Int32) (st st' : RS) (hf : x9_opens p0 p1 p2 p3 st = some st') (sz : Nat) : Met l yX9_opens wq_X9_opens ({ frames := 0, cells := 0, slots := 0, locals := 0 }) (va_Pc [.ref h0, .int p0, .int p1, .int p2, .int p3] (Pr (dC, dI) (rT ca) [] (RW h0 ar ca st) sz)) (va_Qv (fun (_ : Unit) => True) (Bq (dC, dI) (fun _ => RW h0 ar ca st') (fun _ => []) (va_A (RW h0 ar ca st) sz)) (va_A (RW h0 ar ca st) sz)) 0 0 (va_A (RW h0 ar ca st) sz) := by
  refine Met.ofW (cc := cX9_opens) (maxL := 5) (ret := none) (by decide) rfl ?_
  intro p e s m args below meth c s₁ B hml hv
  obtain ⟨rfl, hsz, hP, hK, hD0, hN, hZ, hR⟩ := hv
  have hx := B.exec
  have hb := B.bytes
  have hr := B.returns
  have hts := atoms_spec (ws := wq_X9_opens) B.pre
  have hown : s.vm.findClass RX9 = some m.cls := findClass_of_methodNamed B.named
  have iRX9 : ∀ w ∈ u_ws RX9 TX9 60, w ∈ wq_X9_opens := fun w h => List.mem_cons_of_mem _ (List.mem_append_right _ h)
  subst hsz
  have hp : Rp (dC, dI) h0 ar ca (va_A (RW h0 ar ca st) s.heap.size) s.heap st s.heap [] := ⟨hP, hD0.self, va_S.rf⟩
  generalize hAe : va_A (RW h0 ar ca st) s.heap.size = A at hp hZ ⊢
  have hA : ∀ q : Nat, s.heap.size ≤ q → A q := fun q h => by rw [← hAe]; exact Or.inr h
  have hl := lv_entry ([.ref h0, .int p0, .int p1, .int p2, .int p3]) (n := 5) (Nat.le_of_ble_eq_true rfl)
  rw [lg_entry_eq]
  generalize (lg_sl ([.ref h0, .int p0, .int p1, .int p2, .int p3]) ++ List.replicate (5 - (lg_sl ([.ref h0, .int p0, .int p1, .int p2, .int p3])).length) Slot.unset).toArray = ls at hl ⊢
  have hl : lv_has ls 5 [(0, .ref h0), (1, .int p0), (2, .int p1), (3, .int p2), (4, .int p3)] := hl
  unfold x9_opens at hf
  refine lv_aload_n hx hb dX9_opens_0 rfl (lv_at hl 0 rfl) ?_
  refine r_ga hx hb hts iRX9 hown hK hp 47 (by decide) (by decide) (hts (.fieldLink RX9 99 "RecordBenchModel" "pileMake" "[I") (by decide +kernel)) dX9_opens_1 ?_
  refine lv_iload_n hx hb dX9_opens_4 rfl (lv_at hl 1 rfl) ?_
  refine lv_iload_n hx hb dX9_opens_5 rfl (lv_at hl 2 rfl) ?_
  obtain ⟨g_1, hf⟩ := gd_some hf
  refine r_si (n := 9) hx hb hK hp 18 47 rfl rfl rfl g_1 dX9_opens_6 (fun H locs hp => ?_)
  obtain ⟨st_2, est_2, hf⟩ := nam_some hf
  rw [← est_2] at hp
  refine lv_aload_n hx hb dX9_opens_7 rfl (lv_at hl 0 rfl) ?_
  refine r_ga hx hb hts iRX9 hown hK hp 48 (by decide) (by decide) (hts (.fieldLink RX9 102 "RecordBenchModel" "pileAt" "[I") (by decide +kernel)) dX9_opens_8 ?_
  refine lv_iload_n hx hb dX9_opens_11 rfl (lv_at hl 1 rfl) ?_
  refine lv_iload_n hx hb dX9_opens_12 rfl (lv_at hl 3 rfl) ?_
  obtain ⟨g_3, hf⟩ := gd_some hf
  refine r_si (n := 9) hx hb hK hp 19 48 rfl rfl rfl g_3 dX9_opens_13 (fun H locs hp => ?_)
  obtain ⟨st_4, est_4, hf⟩ := nam_some hf
  rw [← est_4] at hp
  refine lv_aload_n hx hb dX9_opens_14 rfl (lv_at hl 0 rfl) ?_
  refine r_ga hx hb hts iRX9 hown hK hp 49 (by decide) (by decide) (hts (.fieldLink RX9 105 "RecordBenchModel" "pileEnd" "[I") (by decide +kernel)) dX9_opens_15 ?_
  refine lv_iload_n hx hb dX9_opens_18 rfl (lv_at hl 1 rfl) ?_
  refine lv_iload hx hb dX9_opens_19 (lv_at hl 4 rfl) ?_
  obtain ⟨g_5, hf⟩ := gd_some hf
  refine r_si (n := 9) hx hb hK hp 20 49 rfl rfl rfl g_5 dX9_opens_21 (fun H locs hp => ?_)
  obtain ⟨st_6, est_6, hf⟩ := nam_some hf
  rw [← est_6] at hp
  refine lv_aload_n hx hb dX9_opens_22 rfl (lv_at hl 0 rfl) ?_
  refine r_ga hx hb hts iRX9 hown hK hp 50 (by decide) (by decide) (hts (.fieldLink RX9 108 "RecordBenchModel" "pileLast" "[I") (by decide +kernel)) dX9_opens_23 ?_
  refine lv_iload_n hx hb dX9_opens_26 rfl (lv_at hl 1 rfl) ?_
  refine lv_iconst (v := 0) hx hb dX9_opens_27 (by decide) ?_
  obtain ⟨g_7, hf⟩ := gd_some hf
  refine r_si (n := 9) hx hb hK hp 21 50 rfl rfl rfl g_7 dX9_opens_28 (fun H locs hp => ?_)
  obtain ⟨st_8, est_8, hf⟩ := nam_some hf
  rw [← est_8] at hp
  refine lv_aload_n hx hb dX9_opens_29 rfl (lv_at hl 0 rfl) ?_
  refine r_ga hx hb hts iRX9 hown hK hp 51 (by decide) (by decide) (hts (.fieldLink RX9 111 "RecordBenchModel" "pileGroups" "[I") (by decide +kernel)) dX9_opens_30 ?_
  refine lv_iload_n hx hb dX9_opens_33 rfl (lv_at hl 1 rfl) ?_
  refine lv_iconst (v := 0) hx hb dX9_opens_34 (by decide) ?_
  obtain ⟨g_9, hf⟩ := gd_some hf
  refine r_si (n := 9) hx hb hK hp 22 51 rfl rfl rfl g_9 dX9_opens_35 (fun H locs hp => ?_)
  obtain ⟨st_10, est_10, hf⟩ := nam_some hf
  rw [← est_10] at hp
  have e2 := Option.some.inj hf
  exact W.vret hx hb hr (fun t ht hW => ⟨⟨(), rfl, trivial, Rp.end e2 hp hK ht hW⟩, hp.2.2.F ht⟩) hp.2.2.2.2 dX9_opens_36
noncomputable def x9_loads_2  : Nat → Int32 → Int32 → RS → Option (RS)
  | 0 => fun _ _ _ => none
  | n + 1 => fun l1 l2 st => gd (vp_in l1 4) (pif ((gF st 29 l1.toNatClampNeg) ≤ l2) (some st) (gd (vp_in ((120 * l1) + l2) 480) (gd (vp_in l2 160) (nam (sF st 30 (upd (gF st 30) l2.toNatClampNeg (gF st 28 ((120 * l1) + l2).toNatClampNeg))) (fun st_5 => nam (l2 + 1) (fun v_6 => (x9_loads_2 n) l1 v_6 st_5))))))
theorem x9_loads_2_z  (l1 : Int32) (l2 : Int32) (st : RS) : x9_loads_2  0 l1 l2 st = none := rfl
theorem x9_loads_2_s  (n : Nat) (l1 : Int32) (l2 : Int32) (st : RS) : x9_loads_2  (n + 1) l1 l2 st = gd (vp_in l1 4) (pif ((gF st 29 l1.toNatClampNeg) ≤ l2) (some st) (gd (vp_in ((120 * l1) + l2) 480) (gd (vp_in l2 160) (nam (sF st 30 (upd (gF st 30) l2.toNatClampNeg (gF st 28 ((120 * l1) + l2).toNatClampNeg))) (fun st_5 => nam (l2 + 1) (fun v_6 => (x9_loads_2 n) l1 v_6 st_5)))))) := rfl
noncomputable def x9_loads (p0 : Int32) (st : RS) : Option (RS) := x9_loads_2  fuel p0 0 st
def wq_X9_loads : List Cond := .code yX9_loads cX9_loads 3 none :: (([.fieldLink RX9 78 "RecordBenchModel" "long0" "[I", .fieldLink RX9 81 "RecordBenchModel" "row" "[I", .fieldLink RX9 75 "RecordBenchModel" "bytes" "[I"] : List Cond) ++ wsX90)
set_option maxHeartbeats 4000000 in
set_option maxRecDepth 100000 in
theorem c_X9_loads (l : Launch) (dC : Nat → ClassId) (dI : Nat → Nat → Nat) (h0 : Nat) (ar : Nat → Nat) (ca : Nat → ClassId) (p0 : Int32) (st st' : RS) (hf : x9_loads p0 st = some st') (sz : Nat) : Met l yX9_loads wq_X9_loads ({ frames := 0, cells := 0, slots := 0, locals := 0 }) (va_Pc [.ref h0, .int p0] (Pr (dC, dI) (rT ca) [] (RW h0 ar ca st) sz)) (va_Qv (fun (_ : Unit) => True) (Bq (dC, dI) (fun _ => RW h0 ar ca st') (fun _ => []) (va_A (RW h0 ar ca st) sz)) (va_A (RW h0 ar ca st) sz)) 0 0 (va_A (RW h0 ar ca st) sz) := by
  refine Met.ofW (cc := cX9_loads) (maxL := 3) (ret := none) (by decide) rfl ?_
  intro p e s m args below meth c s₁ B hml hv
  obtain ⟨rfl, hsz, hP, hK, hD0, hN, hZ, hR⟩ := hv
  have hx := B.exec
  have hb := B.bytes
  have hr := B.returns
  have hts := atoms_spec (ws := wq_X9_loads) B.pre
  have hown : s.vm.findClass RX9 = some m.cls := findClass_of_methodNamed B.named
  have iRX9 : ∀ w ∈ u_ws RX9 TX9 60, w ∈ wq_X9_loads := fun w h => List.mem_cons_of_mem _ (List.mem_append_right _ h)
  subst hsz
  have hp : Rp (dC, dI) h0 ar ca (va_A (RW h0 ar ca st) s.heap.size) s.heap st s.heap [] := ⟨hP, hD0.self, va_S.rf⟩
  generalize hAe : va_A (RW h0 ar ca st) s.heap.size = A at hp hZ ⊢
  have hA : ∀ q : Nat, s.heap.size ≤ q → A q := fun q h => by rw [← hAe]; exact Or.inr h
  have hl := lv_entry ([.ref h0, .int p0]) (n := 3) (Nat.le_of_ble_eq_true rfl)
  rw [lg_entry_eq]
  generalize (lg_sl ([.ref h0, .int p0]) ++ List.replicate (3 - (lg_sl ([.ref h0, .int p0])).length) Slot.unset).toArray = ls at hl ⊢
  have hl : lv_has ls 3 [(0, .ref h0), (1, .int p0)] := hl
  refine W_lp (fun n2 (u : Int32 × Int32 × RS) H locs ls => match u with | (l1, l2, st) => x9_loads_2 n2 l1 l2 st = some st' ∧ Rp (dC, dI) h0 ar ca A s.heap st H locs ∧ lv_has ls 3 [(0, .ref h0), (1, .int l1), (2, .int l2)]) (fun (u : Int32 × Int32 × RS) ls => match u with | (l1, l2, st) => F0 m 2 ls []) ?_ ?_ (fun J2 => ?_)
  · intro u H locs ls hu
    obtain ⟨l1, l2, st⟩ := u
    obtain ⟨hf, hp, hl⟩ := hu
    rw [x9_loads_2_z] at hf
    cases hf
  · intro n2 ih2 u H locs ls hu
    obtain ⟨l1, l2, st⟩ := u
    obtain ⟨hf, hp, hl⟩ := hu
    show W p l e _ s m _ below meth c _ _ _ _ _ (F0 m 2 ls [])
    rw [x9_loads_2_s] at hf
    refine lv_iload_n hx hb dX9_loads_2 rfl (lv_at hl 2 rfl) ?_
    refine lv_aload_n hx hb dX9_loads_3 rfl (lv_at hl 0 rfl) ?_
    refine r_ga hx hb hts iRX9 hown hK hp 29 (by decide) (by decide) (hts (.fieldLink RX9 78 "RecordBenchModel" "long0" "[I") (by decide +kernel)) dX9_loads_4 ?_
    refine lv_iload_n hx hb dX9_loads_7 rfl (lv_at hl 1 rfl) ?_
    obtain ⟨g_1, hf⟩ := gd_some hf
    refine r_ai (n := 4) hx hb hK hp 11 29 rfl rfl rfl g_1 dX9_loads_8 ?_
    refine lv_icmp_ge (tgt := 35) hx hb dX9_loads_9 (by decide) (fun c_2 => ?_) (fun c_2 => ?_)
    · have hf := pif_t c_2 hf
      have e2 := Option.some.inj hf
      exact W.vret hx hb hr (fun t ht hW => ⟨⟨(), rfl, trivial, Rp.end e2 hp hK ht hW⟩, hp.2.2.F ht⟩) hp.2.2.2.2 dX9_loads_35
    · have hf := pif_f c_2 hf
      refine lv_aload_n hx hb dX9_loads_12 rfl (lv_at hl 0 rfl) ?_
      refine r_ga hx hb hts iRX9 hown hK hp 30 (by decide) (by decide) (hts (.fieldLink RX9 81 "RecordBenchModel" "row" "[I") (by decide +kernel)) dX9_loads_13 ?_
      refine lv_iload_n hx hb dX9_loads_16 rfl (lv_at hl 2 rfl) ?_
      refine lv_aload_n hx hb dX9_loads_17 rfl (lv_at hl 0 rfl) ?_
      refine r_ga hx hb hts iRX9 hown hK hp 28 (by decide) (by decide) (hts (.fieldLink RX9 75 "RecordBenchModel" "bytes" "[I") (by decide +kernel)) dX9_loads_18 ?_
      refine lv_bipush (v := 120) hx hb dX9_loads_21 (by decide) ?_
      refine lv_iload_n hx hb dX9_loads_23 rfl (lv_at hl 1 rfl) ?_
      refine lv_imul hx hb dX9_loads_24 ?_
      refine lv_iload_n hx hb dX9_loads_25 rfl (lv_at hl 2 rfl) ?_
      refine lv_iadd hx hb dX9_loads_26 ?_
      obtain ⟨g_3, hf⟩ := gd_some hf
      refine r_ai (n := 480) hx hb hK hp 10 28 rfl rfl rfl g_3 dX9_loads_27 ?_
      obtain ⟨g_4, hf⟩ := gd_some hf
      refine r_si (n := 160) hx hb hK hp 12 30 rfl rfl rfl g_4 dX9_loads_28 (fun H locs hp => ?_)
      obtain ⟨st_5, est_5, hf⟩ := nam_some hf
      rw [← est_5] at hp
      obtain ⟨v_6, ev_6, hf⟩ := nam_some hf
      refine lv_iinc (v := v_6) (lv' := [(2, .int v_6), (0, .ref h0), (1, .int l1)]) hx hb dX9_loads_29 hl (k := 2) rfl ev_6.symm (by decide) rfl (fun ls hl => ?_)
      refine lv_goto (tgt := 2) hx hb dX9_loads_32 (by decide) ?_
      exact ih2 (l1, v_6, st_5) _ _ _ ⟨hf, hp, (lv_sub hl [1, 2, 0] rfl)⟩
  unfold x9_loads at hf
  refine lv_iconst (v := 0) hx hb dX9_loads_0 (by decide) ?_
  refine lv_istore_n (lv' := [(2, .int 0), (0, .ref h0), (1, .int p0)]) hx hb dX9_loads_1 rfl hl (by decide) rfl (fun ls hl => ?_)
  exact J2 fuel (p0, 0, st) _ _ _ ⟨hf, hp, (lv_sub hl [1, 2, 0] rfl)⟩
