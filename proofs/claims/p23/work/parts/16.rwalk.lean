theorem dX9_by_0 : decode cX9_by 0 = .ok (.aload_n 0, 1) := by decide +kernel
theorem dX9_by_1 : decode cX9_by 1 = .ok (.getfield 377, 3) := by decide +kernel
theorem dX9_by_4 : decode cX9_by 4 = .ok (.ireturn, 1) := by decide +kernel
theorem dX9_differs_0 : decode cX9_differs 0 = .ok (.aload_n 0, 1) := by decide +kernel
theorem dX9_differs_1 : decode cX9_differs 1 = .ok (.iload_n 2, 1) := by decide +kernel
theorem dX9_differs_10 : decode cX9_differs 10 = .ok (.iload_n 1, 1) := by decide +kernel
theorem dX9_differs_101 : decode cX9_differs 101 = .ok (.imul, 1) := by decide +kernel
theorem dX9_differs_102 : decode cX9_differs 102 = .ok (.iload 7, 2) := by decide +kernel
theorem dX9_differs_104 : decode cX9_differs 104 = .ok (.iadd, 1) := by decide +kernel
theorem dX9_differs_105 : decode cX9_differs 105 = .ok (.iaload, 1) := by decide +kernel
theorem dX9_differs_106 : decode cX9_differs 106 = .ok (.aload_n 0, 1) := by decide +kernel
theorem dX9_differs_107 : decode cX9_differs 107 = .ok (.getfield 33, 3) := by decide +kernel
theorem dX9_differs_11 : decode cX9_differs 11 = .ok (.iload_n 3, 1) := by decide +kernel
theorem dX9_differs_110 : decode cX9_differs 110 = .ok (.bipush 12, 2) := by decide +kernel
theorem dX9_differs_112 : decode cX9_differs 112 = .ok (.iload 5, 2) := by decide +kernel
theorem dX9_differs_114 : decode cX9_differs 114 = .ok (.imul, 1) := by decide +kernel
theorem dX9_differs_115 : decode cX9_differs 115 = .ok (.iload 7, 2) := by decide +kernel
theorem dX9_differs_117 : decode cX9_differs 117 = .ok (.iadd, 1) := by decide +kernel
theorem dX9_differs_118 : decode cX9_differs 118 = .ok (.iaload, 1) := by decide +kernel
theorem dX9_differs_119 : decode cX9_differs 119 = .ok (.if_icmp .eq 7, 3) := by decide +kernel
theorem dX9_differs_12 : decode cX9_differs 12 = .ok (.invokevirtual 346, 3) := by decide +kernel
theorem dX9_differs_122 : decode cX9_differs 122 = .ok (.iconst 1, 1) := by decide +kernel
theorem dX9_differs_123 : decode cX9_differs 123 = .ok (.goto 4, 3) := by decide +kernel
theorem dX9_differs_126 : decode cX9_differs 126 = .ok (.iconst 0, 1) := by decide +kernel
theorem dX9_differs_127 : decode cX9_differs 127 = .ok (.istore 6, 2) := by decide +kernel
theorem dX9_differs_129 : decode cX9_differs 129 = .ok (.iinc 7 1, 3) := by decide +kernel
theorem dX9_differs_132 : decode cX9_differs 132 = .ok (.goto (-68), 3) := by decide +kernel
theorem dX9_differs_135 : decode cX9_differs 135 = .ok (.iload 6, 2) := by decide +kernel
theorem dX9_differs_137 : decode cX9_differs 137 = .ok (.ireturn, 1) := by decide +kernel
theorem dX9_differs_15 : decode cX9_differs 15 = .ok (.bipush 6, 2) := by decide +kernel
theorem dX9_differs_17 : decode cX9_differs 17 = .ok (.if_icmp .ne 5, 3) := by decide +kernel
theorem dX9_differs_2 : decode cX9_differs 2 = .ok (.iload_n 3, 1) := by decide +kernel
theorem dX9_differs_20 : decode cX9_differs 20 = .ok (.iconst 0, 1) := by decide +kernel
theorem dX9_differs_21 : decode cX9_differs 21 = .ok (.ireturn, 1) := by decide +kernel
theorem dX9_differs_22 : decode cX9_differs 22 = .ok (.bipush 31, 2) := by decide +kernel
theorem dX9_differs_24 : decode cX9_differs 24 = .ok (.iload_n 1, 1) := by decide +kernel
theorem dX9_differs_25 : decode cX9_differs 25 = .ok (.imul, 1) := by decide +kernel
theorem dX9_differs_26 : decode cX9_differs 26 = .ok (.iload_n 3, 1) := by decide +kernel
theorem dX9_differs_27 : decode cX9_differs 27 = .ok (.iadd, 1) := by decide +kernel
theorem dX9_differs_28 : decode cX9_differs 28 = .ok (.istore 4, 2) := by decide +kernel
theorem dX9_differs_3 : decode cX9_differs 3 = .ok (.invokevirtual 246, 3) := by decide +kernel
theorem dX9_differs_30 : decode cX9_differs 30 = .ok (.bipush 31, 2) := by decide +kernel
theorem dX9_differs_32 : decode cX9_differs 32 = .ok (.iload_n 2, 1) := by decide +kernel
theorem dX9_differs_33 : decode cX9_differs 33 = .ok (.imul, 1) := by decide +kernel
theorem dX9_differs_34 : decode cX9_differs 34 = .ok (.iload_n 3, 1) := by decide +kernel
theorem dX9_differs_35 : decode cX9_differs 35 = .ok (.iadd, 1) := by decide +kernel
theorem dX9_differs_36 : decode cX9_differs 36 = .ok (.istore 5, 2) := by decide +kernel
theorem dX9_differs_38 : decode cX9_differs 38 = .ok (.aload_n 0, 1) := by decide +kernel
theorem dX9_differs_39 : decode cX9_differs 39 = .ok (.getfield 30, 3) := by decide +kernel
theorem dX9_differs_42 : decode cX9_differs 42 = .ok (.iload 4, 2) := by decide +kernel
theorem dX9_differs_44 : decode cX9_differs 44 = .ok (.laload, 1) := by decide +kernel
theorem dX9_differs_45 : decode cX9_differs 45 = .ok (.aload_n 0, 1) := by decide +kernel
theorem dX9_differs_46 : decode cX9_differs 46 = .ok (.getfield 30, 3) := by decide +kernel
theorem dX9_differs_49 : decode cX9_differs 49 = .ok (.iload 5, 2) := by decide +kernel
theorem dX9_differs_51 : decode cX9_differs 51 = .ok (.laload, 1) := by decide +kernel
theorem dX9_differs_52 : decode cX9_differs 52 = .ok (.lcmp, 1) := by decide +kernel
theorem dX9_differs_53 : decode cX9_differs 53 = .ok (.ifCond .eq 5, 3) := by decide +kernel
theorem dX9_differs_56 : decode cX9_differs 56 = .ok (.iconst 1, 1) := by decide +kernel
theorem dX9_differs_57 : decode cX9_differs 57 = .ok (.ireturn, 1) := by decide +kernel
theorem dX9_differs_58 : decode cX9_differs 58 = .ok (.iconst 0, 1) := by decide +kernel
theorem dX9_differs_59 : decode cX9_differs 59 = .ok (.istore 6, 2) := by decide +kernel
theorem dX9_differs_6 : decode cX9_differs 6 = .ok (.ifCond .eq 14, 3) := by decide +kernel
theorem dX9_differs_61 : decode cX9_differs 61 = .ok (.iconst 0, 1) := by decide +kernel
theorem dX9_differs_62 : decode cX9_differs 62 = .ok (.istore 7, 2) := by decide +kernel
theorem dX9_differs_64 : decode cX9_differs 64 = .ok (.iload 7, 2) := by decide +kernel
theorem dX9_differs_66 : decode cX9_differs 66 = .ok (.i2l, 1) := by decide +kernel
theorem dX9_differs_67 : decode cX9_differs 67 = .ok (.aload_n 0, 1) := by decide +kernel
theorem dX9_differs_68 : decode cX9_differs 68 = .ok (.getfield 30, 3) := by decide +kernel
theorem dX9_differs_71 : decode cX9_differs 71 = .ok (.iload 4, 2) := by decide +kernel
theorem dX9_differs_73 : decode cX9_differs 73 = .ok (.laload, 1) := by decide +kernel
theorem dX9_differs_74 : decode cX9_differs 74 = .ok (.lcmp, 1) := by decide +kernel
theorem dX9_differs_75 : decode cX9_differs 75 = .ok (.ifCond .ge 60, 3) := by decide +kernel
theorem dX9_differs_78 : decode cX9_differs 78 = .ok (.aload_n 0, 1) := by decide +kernel
theorem dX9_differs_79 : decode cX9_differs 79 = .ok (.iload_n 1, 1) := by decide +kernel
theorem dX9_differs_80 : decode cX9_differs 80 = .ok (.iload_n 3, 1) := by decide +kernel
theorem dX9_differs_81 : decode cX9_differs 81 = .ok (.invokevirtual 346, 3) := by decide +kernel
theorem dX9_differs_84 : decode cX9_differs 84 = .ok (.iconst 5, 1) := by decide +kernel
theorem dX9_differs_85 : decode cX9_differs 85 = .ok (.if_icmp .ne 50, 3) := by decide +kernel
theorem dX9_differs_88 : decode cX9_differs 88 = .ok (.iload 6, 2) := by decide +kernel
theorem dX9_differs_9 : decode cX9_differs 9 = .ok (.aload_n 0, 1) := by decide +kernel
theorem dX9_differs_90 : decode cX9_differs 90 = .ok (.ifCond .ne 32, 3) := by decide +kernel
theorem dX9_differs_93 : decode cX9_differs 93 = .ok (.aload_n 0, 1) := by decide +kernel
theorem dX9_differs_94 : decode cX9_differs 94 = .ok (.getfield 33, 3) := by decide +kernel
theorem dX9_differs_97 : decode cX9_differs 97 = .ok (.bipush 12, 2) := by decide +kernel
theorem dX9_differs_99 : decode cX9_differs 99 = .ok (.iload 4, 2) := by decide +kernel
theorem dX9_isMated_0 : decode cX9_isMated 0 = .ok (.aload_n 0, 1) := by decide +kernel
theorem dX9_isMated_1 : decode cX9_isMated 1 = .ok (.iload_n 2, 1) := by decide +kernel
theorem dX9_isMated_10 : decode cX9_isMated 10 = .ok (.getfield 17, 3) := by decide +kernel
theorem dX9_isMated_102 : decode cX9_isMated 102 = .ok (.bipush 31, 2) := by decide +kernel
theorem dX9_isMated_104 : decode cX9_isMated 104 = .ok (.iload_n 1, 1) := by decide +kernel
theorem dX9_isMated_105 : decode cX9_isMated 105 = .ok (.imul, 1) := by decide +kernel
theorem dX9_isMated_106 : decode cX9_isMated 106 = .ok (.iload 4, 2) := by decide +kernel
theorem dX9_isMated_108 : decode cX9_isMated 108 = .ok (.iadd, 1) := by decide +kernel
theorem dX9_isMated_109 : decode cX9_isMated 109 = .ok (.iaload, 1) := by decide +kernel
theorem dX9_isMated_110 : decode cX9_isMated 110 = .ok (.aload_n 0, 1) := by decide +kernel
theorem dX9_isMated_111 : decode cX9_isMated 111 = .ok (.getfield 17, 3) := by decide +kernel
theorem dX9_isMated_114 : decode cX9_isMated 114 = .ok (.bipush 31, 2) := by decide +kernel
theorem dX9_isMated_116 : decode cX9_isMated 116 = .ok (.iload_n 1, 1) := by decide +kernel
theorem dX9_isMated_117 : decode cX9_isMated 117 = .ok (.imul, 1) := by decide +kernel
theorem dX9_isMated_118 : decode cX9_isMated 118 = .ok (.iload_n 3, 1) := by decide +kernel
theorem dX9_isMated_119 : decode cX9_isMated 119 = .ok (.iadd, 1) := by decide +kernel
theorem dX9_isMated_120 : decode cX9_isMated 120 = .ok (.iaload, 1) := by decide +kernel
theorem dX9_isMated_121 : decode cX9_isMated 121 = .ok (.if_icmp .eq 5, 3) := by decide +kernel
theorem dX9_isMated_124 : decode cX9_isMated 124 = .ok (.iconst 1, 1) := by decide +kernel
theorem dX9_isMated_125 : decode cX9_isMated 125 = .ok (.ireturn, 1) := by decide +kernel
theorem dX9_isMated_126 : decode cX9_isMated 126 = .ok (.iinc 4 1, 3) := by decide +kernel
theorem dX9_isMated_129 : decode cX9_isMated 129 = .ok (.goto (-101), 3) := by decide +kernel
theorem dX9_isMated_13 : decode cX9_isMated 13 = .ok (.bipush 31, 2) := by decide +kernel
theorem dX9_isMated_132 : decode cX9_isMated 132 = .ok (.iconst 0, 1) := by decide +kernel
theorem dX9_isMated_133 : decode cX9_isMated 133 = .ok (.ireturn, 1) := by decide +kernel
theorem dX9_isMated_15 : decode cX9_isMated 15 = .ok (.iload_n 2, 1) := by decide +kernel
theorem dX9_isMated_16 : decode cX9_isMated 16 = .ok (.imul, 1) := by decide +kernel
theorem dX9_isMated_17 : decode cX9_isMated 17 = .ok (.iload_n 3, 1) := by decide +kernel
theorem dX9_isMated_18 : decode cX9_isMated 18 = .ok (.iadd, 1) := by decide +kernel
theorem dX9_isMated_19 : decode cX9_isMated 19 = .ok (.iaload, 1) := by decide +kernel
theorem dX9_isMated_2 : decode cX9_isMated 2 = .ok (.iload_n 3, 1) := by decide +kernel
theorem dX9_isMated_20 : decode cX9_isMated 20 = .ok (.ifCond .ne 5, 3) := by decide +kernel
theorem dX9_isMated_23 : decode cX9_isMated 23 = .ok (.iconst 0, 1) := by decide +kernel
theorem dX9_isMated_24 : decode cX9_isMated 24 = .ok (.ireturn, 1) := by decide +kernel
theorem dX9_isMated_25 : decode cX9_isMated 25 = .ok (.iconst 1, 1) := by decide +kernel
theorem dX9_isMated_26 : decode cX9_isMated 26 = .ok (.istore 4, 2) := by decide +kernel
theorem dX9_isMated_28 : decode cX9_isMated 28 = .ok (.iload 4, 2) := by decide +kernel
theorem dX9_isMated_3 : decode cX9_isMated 3 = .ok (.invokevirtual 246, 3) := by decide +kernel
theorem dX9_isMated_30 : decode cX9_isMated 30 = .ok (.iload_n 3, 1) := by decide +kernel
theorem dX9_isMated_31 : decode cX9_isMated 31 = .ok (.if_icmp .ge 101, 3) := by decide +kernel
theorem dX9_isMated_34 : decode cX9_isMated 34 = .ok (.aload_n 0, 1) := by decide +kernel
theorem dX9_isMated_35 : decode cX9_isMated 35 = .ok (.iload_n 2, 1) := by decide +kernel
theorem dX9_isMated_36 : decode cX9_isMated 36 = .ok (.iload 4, 2) := by decide +kernel
theorem dX9_isMated_38 : decode cX9_isMated 38 = .ok (.invokevirtual 246, 3) := by decide +kernel
theorem dX9_isMated_41 : decode cX9_isMated 41 = .ok (.ifCond .eq 85, 3) := by decide +kernel
theorem dX9_isMated_44 : decode cX9_isMated 44 = .ok (.aload_n 0, 1) := by decide +kernel
theorem dX9_isMated_45 : decode cX9_isMated 45 = .ok (.getfield 17, 3) := by decide +kernel
theorem dX9_isMated_48 : decode cX9_isMated 48 = .ok (.bipush 31, 2) := by decide +kernel
theorem dX9_isMated_50 : decode cX9_isMated 50 = .ok (.iload_n 2, 1) := by decide +kernel
theorem dX9_isMated_51 : decode cX9_isMated 51 = .ok (.imul, 1) := by decide +kernel
theorem dX9_isMated_52 : decode cX9_isMated 52 = .ok (.iload 4, 2) := by decide +kernel
theorem dX9_isMated_54 : decode cX9_isMated 54 = .ok (.iadd, 1) := by decide +kernel
theorem dX9_isMated_55 : decode cX9_isMated 55 = .ok (.iaload, 1) := by decide +kernel
theorem dX9_isMated_56 : decode cX9_isMated 56 = .ok (.aload_n 0, 1) := by decide +kernel
theorem dX9_isMated_57 : decode cX9_isMated 57 = .ok (.getfield 17, 3) := by decide +kernel
theorem dX9_isMated_6 : decode cX9_isMated 6 = .ok (.ifCond .eq 17, 3) := by decide +kernel
theorem dX9_isMated_60 : decode cX9_isMated 60 = .ok (.bipush 31, 2) := by decide +kernel
theorem dX9_isMated_62 : decode cX9_isMated 62 = .ok (.iload_n 2, 1) := by decide +kernel
theorem dX9_isMated_63 : decode cX9_isMated 63 = .ok (.imul, 1) := by decide +kernel
theorem dX9_isMated_64 : decode cX9_isMated 64 = .ok (.iload_n 3, 1) := by decide +kernel
theorem dX9_isMated_65 : decode cX9_isMated 65 = .ok (.iadd, 1) := by decide +kernel
theorem dX9_isMated_66 : decode cX9_isMated 66 = .ok (.iaload, 1) := by decide +kernel
theorem dX9_isMated_67 : decode cX9_isMated 67 = .ok (.if_icmp .ne 59, 3) := by decide +kernel
theorem dX9_isMated_70 : decode cX9_isMated 70 = .ok (.aload_n 0, 1) := by decide +kernel
theorem dX9_isMated_71 : decode cX9_isMated 71 = .ok (.iload_n 1, 1) := by decide +kernel
theorem dX9_isMated_72 : decode cX9_isMated 72 = .ok (.iload 4, 2) := by decide +kernel
theorem dX9_isMated_74 : decode cX9_isMated 74 = .ok (.invokevirtual 246, 3) := by decide +kernel
theorem dX9_isMated_77 : decode cX9_isMated 77 = .ok (.ifCond .ne 6, 3) := by decide +kernel
theorem dX9_isMated_80 : decode cX9_isMated 80 = .ok (.goto 46, 3) := by decide +kernel
theorem dX9_isMated_83 : decode cX9_isMated 83 = .ok (.aload_n 0, 1) := by decide +kernel
theorem dX9_isMated_84 : decode cX9_isMated 84 = .ok (.getfield 17, 3) := by decide +kernel
theorem dX9_isMated_87 : decode cX9_isMated 87 = .ok (.bipush 31, 2) := by decide +kernel
theorem dX9_isMated_89 : decode cX9_isMated 89 = .ok (.iload_n 1, 1) := by decide +kernel
theorem dX9_isMated_9 : decode cX9_isMated 9 = .ok (.aload_n 0, 1) := by decide +kernel
theorem dX9_isMated_90 : decode cX9_isMated 90 = .ok (.imul, 1) := by decide +kernel
theorem dX9_isMated_91 : decode cX9_isMated 91 = .ok (.iload 4, 2) := by decide +kernel
theorem dX9_isMated_93 : decode cX9_isMated 93 = .ok (.iadd, 1) := by decide +kernel
theorem dX9_isMated_94 : decode cX9_isMated 94 = .ok (.iaload, 1) := by decide +kernel
theorem dX9_isMated_95 : decode cX9_isMated 95 = .ok (.ifCond .eq 29, 3) := by decide +kernel
theorem dX9_isMated_98 : decode cX9_isMated 98 = .ok (.aload_n 0, 1) := by decide +kernel
theorem dX9_isMated_99 : decode cX9_isMated 99 = .ok (.getfield 17, 3) := by decide +kernel
theorem dX9_isNarrower_0 : decode cX9_isNarrower 0 = .ok (.aload_n 0, 1) := by decide +kernel
theorem dX9_isNarrower_1 : decode cX9_isNarrower 1 = .ok (.iload_n 2, 1) := by decide +kernel
theorem dX9_isNarrower_10 : decode cX9_isNarrower 10 = .ok (.iload_n 1, 1) := by decide +kernel
theorem dX9_isNarrower_11 : decode cX9_isNarrower 11 = .ok (.iload_n 3, 1) := by decide +kernel
theorem dX9_isNarrower_12 : decode cX9_isNarrower 12 = .ok (.invokevirtual 346, 3) := by decide +kernel
theorem dX9_isNarrower_15 : decode cX9_isNarrower 15 = .ok (.ifCond .ne 32, 3) := by decide +kernel
theorem dX9_isNarrower_18 : decode cX9_isNarrower 18 = .ok (.aload_n 0, 1) := by decide +kernel
theorem dX9_isNarrower_19 : decode cX9_isNarrower 19 = .ok (.getfield 13, 3) := by decide +kernel
theorem dX9_isNarrower_2 : decode cX9_isNarrower 2 = .ok (.iload_n 3, 1) := by decide +kernel
theorem dX9_isNarrower_22 : decode cX9_isNarrower 22 = .ok (.bipush 31, 2) := by decide +kernel
theorem dX9_isNarrower_24 : decode cX9_isNarrower 24 = .ok (.iload_n 2, 1) := by decide +kernel
theorem dX9_isNarrower_25 : decode cX9_isNarrower 25 = .ok (.imul, 1) := by decide +kernel
theorem dX9_isNarrower_26 : decode cX9_isNarrower 26 = .ok (.iload_n 3, 1) := by decide +kernel
theorem dX9_isNarrower_27 : decode cX9_isNarrower 27 = .ok (.iadd, 1) := by decide +kernel
theorem dX9_isNarrower_28 : decode cX9_isNarrower 28 = .ok (.iaload, 1) := by decide +kernel
theorem dX9_isNarrower_29 : decode cX9_isNarrower 29 = .ok (.aload_n 0, 1) := by decide +kernel
theorem dX9_isNarrower_3 : decode cX9_isNarrower 3 = .ok (.invokevirtual 246, 3) := by decide +kernel
theorem dX9_isNarrower_30 : decode cX9_isNarrower 30 = .ok (.getfield 13, 3) := by decide +kernel
theorem dX9_isNarrower_33 : decode cX9_isNarrower 33 = .ok (.bipush 31, 2) := by decide +kernel
theorem dX9_isNarrower_35 : decode cX9_isNarrower 35 = .ok (.iload_n 1, 1) := by decide +kernel
theorem dX9_isNarrower_36 : decode cX9_isNarrower 36 = .ok (.imul, 1) := by decide +kernel
theorem dX9_isNarrower_37 : decode cX9_isNarrower 37 = .ok (.iload_n 3, 1) := by decide +kernel
theorem dX9_isNarrower_38 : decode cX9_isNarrower 38 = .ok (.iadd, 1) := by decide +kernel
theorem dX9_isNarrower_39 : decode cX9_isNarrower 39 = .ok (.iaload, 1) := by decide +kernel
theorem dX9_isNarrower_40 : decode cX9_isNarrower 40 = .ok (.if_icmp .ge 7, 3) := by decide +kernel
theorem dX9_isNarrower_43 : decode cX9_isNarrower 43 = .ok (.iconst 1, 1) := by decide +kernel
theorem dX9_isNarrower_44 : decode cX9_isNarrower 44 = .ok (.goto 4, 3) := by decide +kernel
theorem dX9_isNarrower_47 : decode cX9_isNarrower 47 = .ok (.iconst 0, 1) := by decide +kernel
theorem dX9_isNarrower_48 : decode cX9_isNarrower 48 = .ok (.ireturn, 1) := by decide +kernel
theorem dX9_isNarrower_6 : decode cX9_isNarrower 6 = .ok (.ifCond .eq 41, 3) := by decide +kernel
theorem dX9_isNarrower_9 : decode cX9_isNarrower 9 = .ok (.aload_n 0, 1) := by decide +kernel
theorem dX9_isOther_0 : decode cX9_isOther 0 = .ok (.aload_n 0, 1) := by decide +kernel
theorem dX9_isOther_1 : decode cX9_isOther 1 = .ok (.iload_n 2, 1) := by decide +kernel
theorem dX9_isOther_10 : decode cX9_isOther 10 = .ok (.iload_n 1, 1) := by decide +kernel
theorem dX9_isOther_11 : decode cX9_isOther 11 = .ok (.iload_n 3, 1) := by decide +kernel
theorem dX9_isOther_12 : decode cX9_isOther 12 = .ok (.invokevirtual 346, 3) := by decide +kernel
theorem dX9_isOther_15 : decode cX9_isOther 15 = .ok (.aload_n 0, 1) := by decide +kernel
theorem dX9_isOther_16 : decode cX9_isOther 16 = .ok (.iload_n 2, 1) := by decide +kernel
theorem dX9_isOther_17 : decode cX9_isOther 17 = .ok (.iload_n 3, 1) := by decide +kernel
theorem dX9_isOther_18 : decode cX9_isOther 18 = .ok (.invokevirtual 346, 3) := by decide +kernel
theorem dX9_isOther_2 : decode cX9_isOther 2 = .ok (.iload_n 3, 1) := by decide +kernel
theorem dX9_isOther_21 : decode cX9_isOther 21 = .ok (.if_icmp .eq 7, 3) := by decide +kernel
theorem dX9_isOther_24 : decode cX9_isOther 24 = .ok (.iconst 1, 1) := by decide +kernel
theorem dX9_isOther_25 : decode cX9_isOther 25 = .ok (.goto 4, 3) := by decide +kernel
theorem dX9_isOther_28 : decode cX9_isOther 28 = .ok (.iconst 0, 1) := by decide +kernel
theorem dX9_isOther_29 : decode cX9_isOther 29 = .ok (.ireturn, 1) := by decide +kernel
theorem dX9_isOther_3 : decode cX9_isOther 3 = .ok (.invokevirtual 246, 3) := by decide +kernel
theorem dX9_isOther_6 : decode cX9_isOther 6 = .ok (.ifCond .eq 22, 3) := by decide +kernel
theorem dX9_isOther_9 : decode cX9_isOther 9 = .ok (.aload_n 0, 1) := by decide +kernel
theorem dX9_place_0 : decode cX9_place 0 = .ok (.iload_n 0, 1) := by decide +kernel
theorem dX9_place_1 : decode cX9_place 1 = .ok (.bipush 8, 2) := by decide +kernel
theorem dX9_place_10 : decode cX9_place 10 = .ok (.iadd, 1) := by decide +kernel
theorem dX9_place_11 : decode cX9_place 11 = .ok (.iconst 2, 1) := by decide +kernel
theorem dX9_place_12 : decode cX9_place 12 = .ok (.imul, 1) := by decide +kernel
theorem dX9_place_13 : decode cX9_place 13 = .ok (.iload_n 3, 1) := by decide +kernel
theorem dX9_place_14 : decode cX9_place 14 = .ok (.iadd, 1) := by decide +kernel
theorem dX9_place_15 : decode cX9_place 15 = .ok (.ireturn, 1) := by decide +kernel
theorem dX9_place_3 : decode cX9_place 3 = .ok (.imul, 1) := by decide +kernel
theorem dX9_place_4 : decode cX9_place 4 = .ok (.iload_n 1, 1) := by decide +kernel
theorem dX9_place_5 : decode cX9_place 5 = .ok (.iadd, 1) := by decide +kernel
theorem dX9_place_6 : decode cX9_place 6 = .ok (.bipush 8, 2) := by decide +kernel
theorem dX9_place_8 : decode cX9_place 8 = .ok (.imul, 1) := by decide +kernel
theorem dX9_place_9 : decode cX9_place 9 = .ok (.iload_n 2, 1) := by decide +kernel
theorem dX9_readers_0 : decode cX9_readers 0 = .ok (.aload_n 0, 1) := by decide +kernel
theorem dX9_readers_1 : decode cX9_readers 1 = .ok (.iload_n 1, 1) := by decide +kernel
theorem dX9_readers_10 : decode cX9_readers 10 = .ok (.aload_n 0, 1) := by decide +kernel
theorem dX9_readers_11 : decode cX9_readers 11 = .ok (.invokevirtual 374, 3) := by decide +kernel
theorem dX9_readers_14 : decode cX9_readers 14 = .ok (.iconst 0, 1) := by decide +kernel
theorem dX9_readers_15 : decode cX9_readers 15 = .ok (.istore_n 2, 1) := by decide +kernel
theorem dX9_readers_16 : decode cX9_readers 16 = .ok (.iconst 0, 1) := by decide +kernel
theorem dX9_readers_17 : decode cX9_readers 17 = .ok (.istore_n 3, 1) := by decide +kernel
theorem dX9_readers_18 : decode cX9_readers 18 = .ok (.iload_n 3, 1) := by decide +kernel
theorem dX9_readers_19 : decode cX9_readers 19 = .ok (.bipush 8, 2) := by decide +kernel
theorem dX9_readers_2 : decode cX9_readers 2 = .ok (.invokevirtual 239, 3) := by decide +kernel
theorem dX9_readers_21 : decode cX9_readers 21 = .ok (.if_icmp .ge 36, 3) := by decide +kernel
theorem dX9_readers_24 : decode cX9_readers 24 = .ok (.aload_n 0, 1) := by decide +kernel
theorem dX9_readers_25 : decode cX9_readers 25 = .ok (.getfield 7, 3) := by decide +kernel
theorem dX9_readers_28 : decode cX9_readers 28 = .ok (.iload_n 3, 1) := by decide +kernel
theorem dX9_readers_29 : decode cX9_readers 29 = .ok (.baload, 1) := by decide +kernel
theorem dX9_readers_30 : decode cX9_readers 30 = .ok (.ifCond .eq 21, 3) := by decide +kernel
theorem dX9_readers_33 : decode cX9_readers 33 = .ok (.aload_n 0, 1) := by decide +kernel
theorem dX9_readers_34 : decode cX9_readers 34 = .ok (.getfield 126, 3) := by decide +kernel
theorem dX9_readers_37 : decode cX9_readers 37 = .ok (.iload_n 3, 1) := by decide +kernel
theorem dX9_readers_38 : decode cX9_readers 38 = .ok (.iload_n 1, 1) := by decide +kernel
theorem dX9_readers_39 : decode cX9_readers 39 = .ok (.iload_n 1, 1) := by decide +kernel
theorem dX9_readers_40 : decode cX9_readers 40 = .ok (.iconst 0, 1) := by decide +kernel
theorem dX9_readers_41 : decode cX9_readers 41 = .ok (.invokestatic 350, 3) := by decide +kernel
theorem dX9_readers_44 : decode cX9_readers 44 = .ok (.iaload, 1) := by decide +kernel
theorem dX9_readers_45 : decode cX9_readers 45 = .ok (.ifCond .ne 6, 3) := by decide +kernel
theorem dX9_readers_48 : decode cX9_readers 48 = .ok (.iinc 2 1, 3) := by decide +kernel
theorem dX9_readers_5 : decode cX9_readers 5 = .ok (.ifCond .ne 5, 3) := by decide +kernel
theorem dX9_readers_51 : decode cX9_readers 51 = .ok (.iinc 3 1, 3) := by decide +kernel
theorem dX9_readers_54 : decode cX9_readers 54 = .ok (.goto (-36), 3) := by decide +kernel
theorem dX9_readers_57 : decode cX9_readers 57 = .ok (.iload_n 2, 1) := by decide +kernel
theorem dX9_readers_58 : decode cX9_readers 58 = .ok (.ireturn, 1) := by decide +kernel
theorem dX9_readers_8 : decode cX9_readers 8 = .ok (.iconst (-1), 1) := by decide +kernel
theorem dX9_readers_9 : decode cX9_readers 9 = .ok (.ireturn, 1) := by decide +kernel
theorem dX9_sortOf_0 : decode cX9_sortOf 0 = .ok (.aload_n 0, 1) := by decide +kernel
theorem dX9_sortOf_1 : decode cX9_sortOf 1 = .ok (.getfield 13, 3) := by decide +kernel
theorem dX9_sortOf_10 : decode cX9_sortOf 10 = .ok (.iaload, 1) := by decide +kernel
theorem dX9_sortOf_11 : decode cX9_sortOf 11 = .ok (.istore_n 3, 1) := by decide +kernel
theorem dX9_sortOf_12 : decode cX9_sortOf 12 = .ok (.iload_n 3, 1) := by decide +kernel
theorem dX9_sortOf_13 : decode cX9_sortOf 13 = .ok (.iconst 5, 1) := by decide +kernel
theorem dX9_sortOf_14 : decode cX9_sortOf 14 = .ok (.if_icmp .ge 7, 3) := by decide +kernel
theorem dX9_sortOf_17 : decode cX9_sortOf 17 = .ok (.iconst 0, 1) := by decide +kernel
theorem dX9_sortOf_18 : decode cX9_sortOf 18 = .ok (.goto 4, 3) := by decide +kernel
theorem dX9_sortOf_21 : decode cX9_sortOf 21 = .ok (.iload_n 3, 1) := by decide +kernel
theorem dX9_sortOf_22 : decode cX9_sortOf 22 = .ok (.ireturn, 1) := by decide +kernel
theorem dX9_sortOf_4 : decode cX9_sortOf 4 = .ok (.bipush 31, 2) := by decide +kernel
theorem dX9_sortOf_6 : decode cX9_sortOf 6 = .ok (.iload_n 1, 1) := by decide +kernel
theorem dX9_sortOf_7 : decode cX9_sortOf 7 = .ok (.imul, 1) := by decide +kernel
theorem dX9_sortOf_8 : decode cX9_sortOf 8 = .ok (.iload_n 2, 1) := by decide +kernel
theorem dX9_sortOf_9 : decode cX9_sortOf 9 = .ok (.iadd, 1) := by decide +kernel
theorem dX9_step_0 : decode cX9_step 0 = .ok (.aload_n 0, 1) := by decide +kernel
theorem dX9_step_1 : decode cX9_step 1 = .ok (.iload_n 1, 1) := by decide +kernel
theorem dX9_step_2 : decode cX9_step 2 = .ok (.iload_n 2, 1) := by decide +kernel
theorem dX9_step_3 : decode cX9_step 3 = .ok (.iload_n 2, 1) := by decide +kernel
theorem dX9_step_4 : decode cX9_step 4 = .ok (.invokevirtual 380, 3) := by decide +kernel
theorem dX9_step_7 : decode cX9_step 7 = .ok (.ireturn, 1) := by decide +kernel
theorem dX9_walk_0 : decode cX9_walk 0 = .ok (.aload_n 0, 1) := by decide +kernel
theorem dX9_walk_1 : decode cX9_walk 1 = .ok (.iload_n 1, 1) := by decide +kernel
theorem dX9_walk_10 : decode cX9_walk 10 = .ok (.invokevirtual 239, 3) := by decide +kernel
theorem dX9_walk_13 : decode cX9_walk 13 = .ok (.ifCond .eq 11, 3) := by decide +kernel
theorem dX9_walk_16 : decode cX9_walk 16 = .ok (.aload_n 0, 1) := by decide +kernel
theorem dX9_walk_17 : decode cX9_walk 17 = .ok (.iload_n 3, 1) := by decide +kernel
theorem dX9_walk_18 : decode cX9_walk 18 = .ok (.invokevirtual 239, 3) := by decide +kernel
theorem dX9_walk_2 : decode cX9_walk 2 = .ok (.invokevirtual 239, 3) := by decide +kernel
theorem dX9_walk_21 : decode cX9_walk 21 = .ok (.ifCond .ne 5, 3) := by decide +kernel
theorem dX9_walk_24 : decode cX9_walk 24 = .ok (.iconst (-1), 1) := by decide +kernel
theorem dX9_walk_25 : decode cX9_walk 25 = .ok (.ireturn, 1) := by decide +kernel
theorem dX9_walk_26 : decode cX9_walk 26 = .ok (.aload_n 0, 1) := by decide +kernel
theorem dX9_walk_27 : decode cX9_walk 27 = .ok (.invokevirtual 374, 3) := by decide +kernel
theorem dX9_walk_30 : decode cX9_walk 30 = .ok (.aload_n 0, 1) := by decide +kernel
theorem dX9_walk_31 : decode cX9_walk 31 = .ok (.aload_n 0, 1) := by decide +kernel
theorem dX9_walk_32 : decode cX9_walk 32 = .ok (.getfield 129, 3) := by decide +kernel
theorem dX9_walk_35 : decode cX9_walk 35 = .ok (.iload_n 1, 1) := by decide +kernel
theorem dX9_walk_36 : decode cX9_walk 36 = .ok (.iload_n 2, 1) := by decide +kernel
theorem dX9_walk_37 : decode cX9_walk 37 = .ok (.iload_n 3, 1) := by decide +kernel
theorem dX9_walk_38 : decode cX9_walk 38 = .ok (.iconst 0, 1) := by decide +kernel
theorem dX9_walk_39 : decode cX9_walk 39 = .ok (.invokestatic 350, 3) := by decide +kernel
theorem dX9_walk_42 : decode cX9_walk 42 = .ok (.iaload, 1) := by decide +kernel
theorem dX9_walk_43 : decode cX9_walk 43 = .ok (.putfield 377, 3) := by decide +kernel
theorem dX9_walk_46 : decode cX9_walk 46 = .ok (.aload_n 0, 1) := by decide +kernel
theorem dX9_walk_47 : decode cX9_walk 47 = .ok (.getfield 126, 3) := by decide +kernel
theorem dX9_walk_5 : decode cX9_walk 5 = .ok (.ifCond .eq 19, 3) := by decide +kernel
theorem dX9_walk_50 : decode cX9_walk 50 = .ok (.iload_n 1, 1) := by decide +kernel
theorem dX9_walk_51 : decode cX9_walk 51 = .ok (.iload_n 2, 1) := by decide +kernel
theorem dX9_walk_52 : decode cX9_walk 52 = .ok (.iload_n 3, 1) := by decide +kernel
theorem dX9_walk_53 : decode cX9_walk 53 = .ok (.iconst 0, 1) := by decide +kernel
theorem dX9_walk_54 : decode cX9_walk 54 = .ok (.invokestatic 350, 3) := by decide +kernel
theorem dX9_walk_57 : decode cX9_walk 57 = .ok (.iaload, 1) := by decide +kernel
theorem dX9_walk_58 : decode cX9_walk 58 = .ok (.ireturn, 1) := by decide +kernel
theorem dX9_walk_8 : decode cX9_walk 8 = .ok (.aload_n 0, 1) := by decide +kernel
theorem dX9_walk_9 : decode cX9_walk 9 = .ok (.iload_n 2, 1) := by decide +kernel
theorem dX9_walks_0 : decode cX9_walks 0 = .ok (.iconst 0, 1) := by decide +kernel
theorem dX9_walks_1 : decode cX9_walks 1 = .ok (.istore_n 1, 1) := by decide +kernel
theorem dX9_walks_10 : decode cX9_walks 10 = .ok (.iload_n 2, 1) := by decide +kernel
theorem dX9_walks_100 : decode cX9_walks 100 = .ok (.getfield 126, 3) := by decide +kernel
theorem dX9_walks_103 : decode cX9_walks 103 = .ok (.iload 5, 2) := by decide +kernel
theorem dX9_walks_105 : decode cX9_walks 105 = .ok (.iaload, 1) := by decide +kernel
theorem dX9_walks_106 : decode cX9_walks 106 = .ok (.ifCond .ne 63, 3) := by decide +kernel
theorem dX9_walks_109 : decode cX9_walks 109 = .ok (.aload_n 0, 1) := by decide +kernel
theorem dX9_walks_11 : decode cX9_walks 11 = .ok (.bipush 8, 2) := by decide +kernel
theorem dX9_walks_110 : decode cX9_walks 110 = .ok (.iload_n 1, 1) := by decide +kernel
theorem dX9_walks_111 : decode cX9_walks 111 = .ok (.iload 6, 2) := by decide +kernel
theorem dX9_walks_113 : decode cX9_walks 113 = .ok (.invokevirtual 246, 3) := by decide +kernel
theorem dX9_walks_116 : decode cX9_walks 116 = .ok (.ifCond .ne 6, 3) := by decide +kernel
theorem dX9_walks_119 : decode cX9_walks 119 = .ok (.goto 44, 3) := by decide +kernel
theorem dX9_walks_122 : decode cX9_walks 122 = .ok (.aload_n 0, 1) := by decide +kernel
theorem dX9_walks_123 : decode cX9_walks 123 = .ok (.getfield 126, 3) := by decide +kernel
theorem dX9_walks_126 : decode cX9_walks 126 = .ok (.iload 5, 2) := by decide +kernel
theorem dX9_walks_128 : decode cX9_walks 128 = .ok (.aload_n 0, 1) := by decide +kernel
theorem dX9_walks_129 : decode cX9_walks 129 = .ok (.iload_n 1, 1) := by decide +kernel
theorem dX9_walks_13 : decode cX9_walks 13 = .ok (.if_icmp .ge 174, 3) := by decide +kernel
theorem dX9_walks_130 : decode cX9_walks 130 = .ok (.iload_n 2, 1) := by decide +kernel
theorem dX9_walks_131 : decode cX9_walks 131 = .ok (.iload_n 3, 1) := by decide +kernel
theorem dX9_walks_132 : decode cX9_walks 132 = .ok (.iload 6, 2) := by decide +kernel
theorem dX9_walks_134 : decode cX9_walks 134 = .ok (.iload 4, 2) := by decide +kernel
theorem dX9_walks_136 : decode cX9_walks 136 = .ok (.invokevirtual 371, 3) := by decide +kernel
theorem dX9_walks_139 : decode cX9_walks 139 = .ok (.iastore, 1) := by decide +kernel
theorem dX9_walks_140 : decode cX9_walks 140 = .ok (.aload_n 0, 1) := by decide +kernel
theorem dX9_walks_141 : decode cX9_walks 141 = .ok (.getfield 129, 3) := by decide +kernel
theorem dX9_walks_144 : decode cX9_walks 144 = .ok (.iload 5, 2) := by decide +kernel
theorem dX9_walks_146 : decode cX9_walks 146 = .ok (.aload_n 0, 1) := by decide +kernel
theorem dX9_walks_147 : decode cX9_walks 147 = .ok (.getfield 126, 3) := by decide +kernel
theorem dX9_walks_150 : decode cX9_walks 150 = .ok (.iload 5, 2) := by decide +kernel
theorem dX9_walks_152 : decode cX9_walks 152 = .ok (.iaload, 1) := by decide +kernel
theorem dX9_walks_153 : decode cX9_walks 153 = .ok (.ifCond .ne 7, 3) := by decide +kernel
theorem dX9_walks_156 : decode cX9_walks 156 = .ok (.iconst 0, 1) := by decide +kernel
theorem dX9_walks_157 : decode cX9_walks 157 = .ok (.goto 5, 3) := by decide +kernel
theorem dX9_walks_16 : decode cX9_walks 16 = .ok (.iconst 0, 1) := by decide +kernel
theorem dX9_walks_160 : decode cX9_walks 160 = .ok (.iload 6, 2) := by decide +kernel
theorem dX9_walks_162 : decode cX9_walks 162 = .ok (.iastore, 1) := by decide +kernel
theorem dX9_walks_163 : decode cX9_walks 163 = .ok (.iinc 6 1, 3) := by decide +kernel
theorem dX9_walks_166 : decode cX9_walks 166 = .ok (.goto (-74), 3) := by decide +kernel
theorem dX9_walks_169 : decode cX9_walks 169 = .ok (.iinc 4 1, 3) := by decide +kernel
theorem dX9_walks_17 : decode cX9_walks 17 = .ok (.istore_n 3, 1) := by decide +kernel
theorem dX9_walks_172 : decode cX9_walks 172 = .ok (.goto (-145), 3) := by decide +kernel
theorem dX9_walks_175 : decode cX9_walks 175 = .ok (.iinc 3 1, 3) := by decide +kernel
theorem dX9_walks_178 : decode cX9_walks 178 = .ok (.goto (-160), 3) := by decide +kernel
theorem dX9_walks_18 : decode cX9_walks 18 = .ok (.iload_n 3, 1) := by decide +kernel
theorem dX9_walks_181 : decode cX9_walks 181 = .ok (.iinc 2 1, 3) := by decide +kernel
theorem dX9_walks_184 : decode cX9_walks 184 = .ok (.goto (-174), 3) := by decide +kernel
theorem dX9_walks_187 : decode cX9_walks 187 = .ok (.iinc 1 1, 3) := by decide +kernel
theorem dX9_walks_19 : decode cX9_walks 19 = .ok (.bipush 8, 2) := by decide +kernel
theorem dX9_walks_190 : decode cX9_walks 190 = .ok (.goto (-188), 3) := by decide +kernel
theorem dX9_walks_193 : decode cX9_walks 193 = .ok (.return_, 1) := by decide +kernel
theorem dX9_walks_2 : decode cX9_walks 2 = .ok (.iload_n 1, 1) := by decide +kernel
theorem dX9_walks_21 : decode cX9_walks 21 = .ok (.if_icmp .ge 160, 3) := by decide +kernel
theorem dX9_walks_24 : decode cX9_walks 24 = .ok (.iconst 0, 1) := by decide +kernel
theorem dX9_walks_25 : decode cX9_walks 25 = .ok (.istore 4, 2) := by decide +kernel
theorem dX9_walks_27 : decode cX9_walks 27 = .ok (.iload 4, 2) := by decide +kernel
theorem dX9_walks_29 : decode cX9_walks 29 = .ok (.iconst 2, 1) := by decide +kernel
theorem dX9_walks_3 : decode cX9_walks 3 = .ok (.bipush 8, 2) := by decide +kernel
theorem dX9_walks_30 : decode cX9_walks 30 = .ok (.if_icmp .ge 145, 3) := by decide +kernel
theorem dX9_walks_33 : decode cX9_walks 33 = .ok (.iload_n 1, 1) := by decide +kernel
theorem dX9_walks_34 : decode cX9_walks 34 = .ok (.iload_n 2, 1) := by decide +kernel
theorem dX9_walks_35 : decode cX9_walks 35 = .ok (.iload_n 3, 1) := by decide +kernel
theorem dX9_walks_36 : decode cX9_walks 36 = .ok (.iload 4, 2) := by decide +kernel
theorem dX9_walks_38 : decode cX9_walks 38 = .ok (.invokestatic 350, 3) := by decide +kernel
theorem dX9_walks_41 : decode cX9_walks 41 = .ok (.istore 5, 2) := by decide +kernel
theorem dX9_walks_43 : decode cX9_walks 43 = .ok (.aload_n 0, 1) := by decide +kernel
theorem dX9_walks_44 : decode cX9_walks 44 = .ok (.getfield 126, 3) := by decide +kernel
theorem dX9_walks_47 : decode cX9_walks 47 = .ok (.iload 5, 2) := by decide +kernel
theorem dX9_walks_49 : decode cX9_walks 49 = .ok (.iconst 0, 1) := by decide +kernel
theorem dX9_walks_5 : decode cX9_walks 5 = .ok (.if_icmp .ge 188, 3) := by decide +kernel
theorem dX9_walks_50 : decode cX9_walks 50 = .ok (.iastore, 1) := by decide +kernel
theorem dX9_walks_51 : decode cX9_walks 51 = .ok (.aload_n 0, 1) := by decide +kernel
theorem dX9_walks_52 : decode cX9_walks 52 = .ok (.getfield 129, 3) := by decide +kernel
theorem dX9_walks_55 : decode cX9_walks 55 = .ok (.iload 5, 2) := by decide +kernel
theorem dX9_walks_57 : decode cX9_walks 57 = .ok (.iconst 0, 1) := by decide +kernel
theorem dX9_walks_58 : decode cX9_walks 58 = .ok (.iastore, 1) := by decide +kernel
theorem dX9_walks_59 : decode cX9_walks 59 = .ok (.aload_n 0, 1) := by decide +kernel
theorem dX9_walks_60 : decode cX9_walks 60 = .ok (.getfield 7, 3) := by decide +kernel
theorem dX9_walks_63 : decode cX9_walks 63 = .ok (.iload_n 1, 1) := by decide +kernel
theorem dX9_walks_64 : decode cX9_walks 64 = .ok (.baload, 1) := by decide +kernel
theorem dX9_walks_65 : decode cX9_walks 65 = .ok (.ifCond .eq 104, 3) := by decide +kernel
theorem dX9_walks_68 : decode cX9_walks 68 = .ok (.aload_n 0, 1) := by decide +kernel
theorem dX9_walks_69 : decode cX9_walks 69 = .ok (.getfield 7, 3) := by decide +kernel
theorem dX9_walks_72 : decode cX9_walks 72 = .ok (.iload_n 2, 1) := by decide +kernel
theorem dX9_walks_73 : decode cX9_walks 73 = .ok (.baload, 1) := by decide +kernel
theorem dX9_walks_74 : decode cX9_walks 74 = .ok (.ifCond .eq 95, 3) := by decide +kernel
theorem dX9_walks_77 : decode cX9_walks 77 = .ok (.aload_n 0, 1) := by decide +kernel
theorem dX9_walks_78 : decode cX9_walks 78 = .ok (.getfield 7, 3) := by decide +kernel
theorem dX9_walks_8 : decode cX9_walks 8 = .ok (.iconst 0, 1) := by decide +kernel
theorem dX9_walks_81 : decode cX9_walks 81 = .ok (.iload_n 3, 1) := by decide +kernel
theorem dX9_walks_82 : decode cX9_walks 82 = .ok (.baload, 1) := by decide +kernel
theorem dX9_walks_83 : decode cX9_walks 83 = .ok (.ifCond .ne 6, 3) := by decide +kernel
theorem dX9_walks_86 : decode cX9_walks 86 = .ok (.goto 83, 3) := by decide +kernel
theorem dX9_walks_89 : decode cX9_walks 89 = .ok (.iconst 1, 1) := by decide +kernel
theorem dX9_walks_9 : decode cX9_walks 9 = .ok (.istore_n 2, 1) := by decide +kernel
theorem dX9_walks_90 : decode cX9_walks 90 = .ok (.istore 6, 2) := by decide +kernel
theorem dX9_walks_92 : decode cX9_walks 92 = .ok (.iload 6, 2) := by decide +kernel
theorem dX9_walks_94 : decode cX9_walks 94 = .ok (.bipush 31, 2) := by decide +kernel
theorem dX9_walks_96 : decode cX9_walks 96 = .ok (.if_icmp .ge 73, 3) := by decide +kernel
theorem dX9_walks_99 : decode cX9_walks 99 = .ok (.aload_n 0, 1) := by decide +kernel
theorem dX9_whyOf_0 : decode cX9_whyOf 0 = .ok (.aload_n 0, 1) := by decide +kernel
theorem dX9_whyOf_1 : decode cX9_whyOf 1 = .ok (.iload_n 1, 1) := by decide +kernel
theorem dX9_whyOf_102 : decode cX9_whyOf 102 = .ok (.aload_n 0, 1) := by decide +kernel
theorem dX9_whyOf_103 : decode cX9_whyOf 103 = .ok (.iload_n 1, 1) := by decide +kernel
theorem dX9_whyOf_104 : decode cX9_whyOf 104 = .ok (.iload_n 2, 1) := by decide +kernel
theorem dX9_whyOf_105 : decode cX9_whyOf 105 = .ok (.iload_n 3, 1) := by decide +kernel
theorem dX9_whyOf_106 : decode cX9_whyOf 106 = .ok (.iload 4, 2) := by decide +kernel
theorem dX9_whyOf_108 : decode cX9_whyOf 108 = .ok (.iload 5, 2) := by decide +kernel
theorem dX9_whyOf_11 : decode cX9_whyOf 11 = .ok (.aload_n 0, 1) := by decide +kernel
theorem dX9_whyOf_110 : decode cX9_whyOf 110 = .ok (.invokevirtual 367, 3) := by decide +kernel
theorem dX9_whyOf_113 : decode cX9_whyOf 113 = .ok (.ifCond .le 7, 3) := by decide +kernel
theorem dX9_whyOf_116 : decode cX9_whyOf 116 = .ok (.iconst 5, 1) := by decide +kernel
theorem dX9_whyOf_117 : decode cX9_whyOf 117 = .ok (.goto 4, 3) := by decide +kernel
theorem dX9_whyOf_12 : decode cX9_whyOf 12 = .ok (.iload_n 1, 1) := by decide +kernel
theorem dX9_whyOf_120 : decode cX9_whyOf 120 = .ok (.iconst 0, 1) := by decide +kernel
theorem dX9_whyOf_121 : decode cX9_whyOf 121 = .ok (.ireturn, 1) := by decide +kernel
theorem dX9_whyOf_13 : decode cX9_whyOf 13 = .ok (.iload_n 3, 1) := by decide +kernel
theorem dX9_whyOf_14 : decode cX9_whyOf 14 = .ok (.iload 4, 2) := by decide +kernel
theorem dX9_whyOf_16 : decode cX9_whyOf 16 = .ok (.invokevirtual 354, 3) := by decide +kernel
theorem dX9_whyOf_19 : decode cX9_whyOf 19 = .ok (.ifCond .eq 5, 3) := by decide +kernel
theorem dX9_whyOf_2 : decode cX9_whyOf 2 = .ok (.iload_n 2, 1) := by decide +kernel
theorem dX9_whyOf_22 : decode cX9_whyOf 22 = .ok (.iconst 1, 1) := by decide +kernel
theorem dX9_whyOf_23 : decode cX9_whyOf 23 = .ok (.ireturn, 1) := by decide +kernel
theorem dX9_whyOf_24 : decode cX9_whyOf 24 = .ok (.aload_n 0, 1) := by decide +kernel
theorem dX9_whyOf_25 : decode cX9_whyOf 25 = .ok (.iload_n 1, 1) := by decide +kernel
theorem dX9_whyOf_26 : decode cX9_whyOf 26 = .ok (.iload_n 2, 1) := by decide +kernel
theorem dX9_whyOf_27 : decode cX9_whyOf 27 = .ok (.iload 4, 2) := by decide +kernel
theorem dX9_whyOf_29 : decode cX9_whyOf 29 = .ok (.invokevirtual 358, 3) := by decide +kernel
theorem dX9_whyOf_3 : decode cX9_whyOf 3 = .ok (.iload 4, 2) := by decide +kernel
theorem dX9_whyOf_32 : decode cX9_whyOf 32 = .ok (.ifCond .ne 14, 3) := by decide +kernel
theorem dX9_whyOf_35 : decode cX9_whyOf 35 = .ok (.aload_n 0, 1) := by decide +kernel
theorem dX9_whyOf_36 : decode cX9_whyOf 36 = .ok (.iload_n 1, 1) := by decide +kernel
theorem dX9_whyOf_37 : decode cX9_whyOf 37 = .ok (.iload_n 3, 1) := by decide +kernel
theorem dX9_whyOf_38 : decode cX9_whyOf 38 = .ok (.iload 4, 2) := by decide +kernel
theorem dX9_whyOf_40 : decode cX9_whyOf 40 = .ok (.invokevirtual 358, 3) := by decide +kernel
theorem dX9_whyOf_43 : decode cX9_whyOf 43 = .ok (.ifCond .eq 5, 3) := by decide +kernel
theorem dX9_whyOf_46 : decode cX9_whyOf 46 = .ok (.iconst 2, 1) := by decide +kernel
theorem dX9_whyOf_47 : decode cX9_whyOf 47 = .ok (.ireturn, 1) := by decide +kernel
theorem dX9_whyOf_48 : decode cX9_whyOf 48 = .ok (.iload 5, 2) := by decide +kernel
theorem dX9_whyOf_5 : decode cX9_whyOf 5 = .ok (.invokevirtual 354, 3) := by decide +kernel
theorem dX9_whyOf_50 : decode cX9_whyOf 50 = .ok (.ifCond .ne 16, 3) := by decide +kernel
theorem dX9_whyOf_53 : decode cX9_whyOf 53 = .ok (.aload_n 0, 1) := by decide +kernel
theorem dX9_whyOf_54 : decode cX9_whyOf 54 = .ok (.iload_n 1, 1) := by decide +kernel
theorem dX9_whyOf_55 : decode cX9_whyOf 55 = .ok (.iload_n 3, 1) := by decide +kernel
theorem dX9_whyOf_56 : decode cX9_whyOf 56 = .ok (.iload 4, 2) := by decide +kernel
theorem dX9_whyOf_58 : decode cX9_whyOf 58 = .ok (.invokevirtual 361, 3) := by decide +kernel
theorem dX9_whyOf_61 : decode cX9_whyOf 61 = .ok (.ifCond .eq 5, 3) := by decide +kernel
theorem dX9_whyOf_64 : decode cX9_whyOf 64 = .ok (.iconst 3, 1) := by decide +kernel
theorem dX9_whyOf_65 : decode cX9_whyOf 65 = .ok (.ireturn, 1) := by decide +kernel
theorem dX9_whyOf_66 : decode cX9_whyOf 66 = .ok (.aload_n 0, 1) := by decide +kernel
theorem dX9_whyOf_67 : decode cX9_whyOf 67 = .ok (.iload_n 1, 1) := by decide +kernel
theorem dX9_whyOf_68 : decode cX9_whyOf 68 = .ok (.iload_n 2, 1) := by decide +kernel
theorem dX9_whyOf_69 : decode cX9_whyOf 69 = .ok (.iload 4, 2) := by decide +kernel
theorem dX9_whyOf_71 : decode cX9_whyOf 71 = .ok (.invokevirtual 364, 3) := by decide +kernel
theorem dX9_whyOf_74 : decode cX9_whyOf 74 = .ok (.ifCond .ne 14, 3) := by decide +kernel
theorem dX9_whyOf_77 : decode cX9_whyOf 77 = .ok (.aload_n 0, 1) := by decide +kernel
theorem dX9_whyOf_78 : decode cX9_whyOf 78 = .ok (.iload_n 1, 1) := by decide +kernel
theorem dX9_whyOf_79 : decode cX9_whyOf 79 = .ok (.iload_n 3, 1) := by decide +kernel
theorem dX9_whyOf_8 : decode cX9_whyOf 8 = .ok (.ifCond .ne 14, 3) := by decide +kernel
theorem dX9_whyOf_80 : decode cX9_whyOf 80 = .ok (.iload 4, 2) := by decide +kernel
theorem dX9_whyOf_82 : decode cX9_whyOf 82 = .ok (.invokevirtual 364, 3) := by decide +kernel
theorem dX9_whyOf_85 : decode cX9_whyOf 85 = .ok (.ifCond .eq 5, 3) := by decide +kernel
theorem dX9_whyOf_88 : decode cX9_whyOf 88 = .ok (.iconst 4, 1) := by decide +kernel
theorem dX9_whyOf_89 : decode cX9_whyOf 89 = .ok (.ireturn, 1) := by decide +kernel
theorem dX9_whyOf_90 : decode cX9_whyOf 90 = .ok (.aload_n 0, 1) := by decide +kernel
theorem dX9_whyOf_91 : decode cX9_whyOf 91 = .ok (.iload_n 1, 1) := by decide +kernel
theorem dX9_whyOf_92 : decode cX9_whyOf 92 = .ok (.iload 4, 2) := by decide +kernel
theorem dX9_whyOf_94 : decode cX9_whyOf 94 = .ok (.invokevirtual 346, 3) := by decide +kernel
theorem dX9_whyOf_97 : decode cX9_whyOf 97 = .ok (.bipush 6, 2) := by decide +kernel
theorem dX9_whyOf_99 : decode cX9_whyOf 99 = .ok (.if_icmp .ne 21, 3) := by decide +kernel
theorem dX9_withinOf_0 : decode cX9_withinOf 0 = .ok (.aload_n 0, 1) := by decide +kernel
theorem dX9_withinOf_1 : decode cX9_withinOf 1 = .ok (.iload_n 2, 1) := by decide +kernel
theorem dX9_withinOf_10 : decode cX9_withinOf 10 = .ok (.iload_n 3, 1) := by decide +kernel
theorem dX9_withinOf_100 : decode cX9_withinOf 100 = .ok (.iload 10, 2) := by decide +kernel
theorem dX9_withinOf_102 : decode cX9_withinOf 102 = .ok (.iload 5, 2) := by decide +kernel
theorem dX9_withinOf_104 : decode cX9_withinOf 104 = .ok (.invokestatic 350, 3) := by decide +kernel
theorem dX9_withinOf_107 : decode cX9_withinOf 107 = .ok (.iaload, 1) := by decide +kernel
theorem dX9_withinOf_108 : decode cX9_withinOf 108 = .ok (.ireturn, 1) := by decide +kernel
theorem dX9_withinOf_109 : decode cX9_withinOf 109 = .ok (.iload 6, 2) := by decide +kernel
theorem dX9_withinOf_11 : decode cX9_withinOf 11 = .ok (.iload 4, 2) := by decide +kernel
theorem dX9_withinOf_111 : decode cX9_withinOf 111 = .ok (.ifCond .eq 21, 3) := by decide +kernel
theorem dX9_withinOf_114 : decode cX9_withinOf 114 = .ok (.aload_n 0, 1) := by decide +kernel
theorem dX9_withinOf_115 : decode cX9_withinOf 115 = .ok (.getfield 126, 3) := by decide +kernel
theorem dX9_withinOf_118 : decode cX9_withinOf 118 = .ok (.iload 8, 2) := by decide +kernel
theorem dX9_withinOf_120 : decode cX9_withinOf 120 = .ok (.iload 9, 2) := by decide +kernel
theorem dX9_withinOf_122 : decode cX9_withinOf 122 = .ok (.iload 9, 2) := by decide +kernel
theorem dX9_withinOf_124 : decode cX9_withinOf 124 = .ok (.iconst 1, 1) := by decide +kernel
theorem dX9_withinOf_125 : decode cX9_withinOf 125 = .ok (.invokestatic 350, 3) := by decide +kernel
theorem dX9_withinOf_128 : decode cX9_withinOf 128 = .ok (.iaload, 1) := by decide +kernel
theorem dX9_withinOf_129 : decode cX9_withinOf 129 = .ok (.goto 4, 3) := by decide +kernel
theorem dX9_withinOf_13 : decode cX9_withinOf 13 = .ok (.invokevirtual 246, 3) := by decide +kernel
theorem dX9_withinOf_132 : decode cX9_withinOf 132 = .ok (.iconst 0, 1) := by decide +kernel
theorem dX9_withinOf_133 : decode cX9_withinOf 133 = .ok (.ireturn, 1) := by decide +kernel
theorem dX9_withinOf_16 : decode cX9_withinOf 16 = .ok (.istore 7, 2) := by decide +kernel
theorem dX9_withinOf_18 : decode cX9_withinOf 18 = .ok (.aload_n 0, 1) := by decide +kernel
theorem dX9_withinOf_19 : decode cX9_withinOf 19 = .ok (.getfield 20, 3) := by decide +kernel
theorem dX9_withinOf_2 : decode cX9_withinOf 2 = .ok (.iload 4, 2) := by decide +kernel
theorem dX9_withinOf_22 : decode cX9_withinOf 22 = .ok (.bipush 31, 2) := by decide +kernel
theorem dX9_withinOf_24 : decode cX9_withinOf 24 = .ok (.iload_n 1, 1) := by decide +kernel
theorem dX9_withinOf_25 : decode cX9_withinOf 25 = .ok (.imul, 1) := by decide +kernel
theorem dX9_withinOf_26 : decode cX9_withinOf 26 = .ok (.iload 4, 2) := by decide +kernel
theorem dX9_withinOf_28 : decode cX9_withinOf 28 = .ok (.iadd, 1) := by decide +kernel
theorem dX9_withinOf_29 : decode cX9_withinOf 29 = .ok (.iaload, 1) := by decide +kernel
theorem dX9_withinOf_30 : decode cX9_withinOf 30 = .ok (.istore 8, 2) := by decide +kernel
theorem dX9_withinOf_32 : decode cX9_withinOf 32 = .ok (.aload_n 0, 1) := by decide +kernel
theorem dX9_withinOf_33 : decode cX9_withinOf 33 = .ok (.getfield 20, 3) := by decide +kernel
theorem dX9_withinOf_36 : decode cX9_withinOf 36 = .ok (.bipush 31, 2) := by decide +kernel
theorem dX9_withinOf_38 : decode cX9_withinOf 38 = .ok (.iload_n 2, 1) := by decide +kernel
theorem dX9_withinOf_39 : decode cX9_withinOf 39 = .ok (.imul, 1) := by decide +kernel
theorem dX9_withinOf_4 : decode cX9_withinOf 4 = .ok (.invokevirtual 246, 3) := by decide +kernel
theorem dX9_withinOf_40 : decode cX9_withinOf 40 = .ok (.iload 4, 2) := by decide +kernel
theorem dX9_withinOf_42 : decode cX9_withinOf 42 = .ok (.iadd, 1) := by decide +kernel
theorem dX9_withinOf_43 : decode cX9_withinOf 43 = .ok (.iaload, 1) := by decide +kernel
theorem dX9_withinOf_44 : decode cX9_withinOf 44 = .ok (.istore 9, 2) := by decide +kernel
theorem dX9_withinOf_46 : decode cX9_withinOf 46 = .ok (.aload_n 0, 1) := by decide +kernel
theorem dX9_withinOf_47 : decode cX9_withinOf 47 = .ok (.getfield 20, 3) := by decide +kernel
theorem dX9_withinOf_50 : decode cX9_withinOf 50 = .ok (.bipush 31, 2) := by decide +kernel
theorem dX9_withinOf_52 : decode cX9_withinOf 52 = .ok (.iload_n 3, 1) := by decide +kernel
theorem dX9_withinOf_53 : decode cX9_withinOf 53 = .ok (.imul, 1) := by decide +kernel
theorem dX9_withinOf_54 : decode cX9_withinOf 54 = .ok (.iload 4, 2) := by decide +kernel
theorem dX9_withinOf_56 : decode cX9_withinOf 56 = .ok (.iadd, 1) := by decide +kernel
theorem dX9_withinOf_57 : decode cX9_withinOf 57 = .ok (.iaload, 1) := by decide +kernel
theorem dX9_withinOf_58 : decode cX9_withinOf 58 = .ok (.istore 10, 2) := by decide +kernel
theorem dX9_withinOf_60 : decode cX9_withinOf 60 = .ok (.iload 6, 2) := by decide +kernel
theorem dX9_withinOf_62 : decode cX9_withinOf 62 = .ok (.ifCond .eq 25, 3) := by decide +kernel
theorem dX9_withinOf_65 : decode cX9_withinOf 65 = .ok (.iload 7, 2) := by decide +kernel
theorem dX9_withinOf_67 : decode cX9_withinOf 67 = .ok (.ifCond .eq 20, 3) := by decide +kernel
theorem dX9_withinOf_7 : decode cX9_withinOf 7 = .ok (.istore 6, 2) := by decide +kernel
theorem dX9_withinOf_70 : decode cX9_withinOf 70 = .ok (.aload_n 0, 1) := by decide +kernel
theorem dX9_withinOf_71 : decode cX9_withinOf 71 = .ok (.getfield 126, 3) := by decide +kernel
theorem dX9_withinOf_74 : decode cX9_withinOf 74 = .ok (.iload 8, 2) := by decide +kernel
theorem dX9_withinOf_76 : decode cX9_withinOf 76 = .ok (.iload 9, 2) := by decide +kernel
theorem dX9_withinOf_78 : decode cX9_withinOf 78 = .ok (.iload 10, 2) := by decide +kernel
theorem dX9_withinOf_80 : decode cX9_withinOf 80 = .ok (.iload 5, 2) := by decide +kernel
theorem dX9_withinOf_82 : decode cX9_withinOf 82 = .ok (.invokestatic 350, 3) := by decide +kernel
theorem dX9_withinOf_85 : decode cX9_withinOf 85 = .ok (.iaload, 1) := by decide +kernel
theorem dX9_withinOf_86 : decode cX9_withinOf 86 = .ok (.ireturn, 1) := by decide +kernel
theorem dX9_withinOf_87 : decode cX9_withinOf 87 = .ok (.iload 7, 2) := by decide +kernel
theorem dX9_withinOf_89 : decode cX9_withinOf 89 = .ok (.ifCond .eq 20, 3) := by decide +kernel
theorem dX9_withinOf_9 : decode cX9_withinOf 9 = .ok (.aload_n 0, 1) := by decide +kernel
theorem dX9_withinOf_92 : decode cX9_withinOf 92 = .ok (.aload_n 0, 1) := by decide +kernel
theorem dX9_withinOf_93 : decode cX9_withinOf 93 = .ok (.getfield 126, 3) := by decide +kernel
theorem dX9_withinOf_96 : decode cX9_withinOf 96 = .ok (.iload 8, 2) := by decide +kernel
theorem dX9_withinOf_98 : decode cX9_withinOf 98 = .ok (.iload 10, 2) := by decide +kernel
noncomputable def x9_place (p0 : Int32) (p1 : Int32) (p2 : Int32) (p3 : Int32) (st : RS) : Option (Int32 × RS) := some ((((((p0 * 8) + p1) * 8) + p2) * 2) + p3, st)
def wq_X9_place : List Cond := .code yX9_place cX9_place 4 (some .int) :: ([])
set_option maxHeartbeats 4000000 in
set_option maxRecDepth 100000 in
theorem c_X9_place (l : Launch) (dC : Nat → ClassId) (dI : Nat → Nat → Nat) (h0 : Nat) (ar : Nat → Nat) (ca : Nat → ClassId) (p0 : Int32) (p1 : Int32) (p2 : Int32) (p3 : Int32) (st st' : RS) (r : Int32) (hf : x9_place p0 p1 p2 p3 st = some (r, st')) (sz : Nat) : Met l yX9_place wq_X9_place ({ frames := 0, cells := 0, slots := 0, locals := 0 }) (va_Pc [.int p0, .int p1, .int p2, .int p3] (Pr (dC, dI) (rT ca) [] (RW h0 ar ca st) sz)) (va_Qi (fun r' (_ : Unit) => r' = r) (Bq (dC, dI) (fun _ => RW h0 ar ca st') (fun _ => []) (va_A (RW h0 ar ca st) sz)) (va_A (RW h0 ar ca st) sz)) 0 0 (va_A (RW h0 ar ca st) sz) := by
  refine Met.ofW (cc := cX9_place) (maxL := 4) (ret := (some .int)) (by decide) rfl ?_
  intro p e s m args below meth c s₁ B hml hv
  obtain ⟨rfl, hsz, hP, hK, hD0, hN, hZ, hR⟩ := hv
  have hx := B.exec
  have hb := B.bytes
  have hr := B.returns
  have hts := atoms_spec (ws := wq_X9_place) B.pre
  have hown : s.vm.findClass RX9 = some m.cls := findClass_of_methodNamed B.named
  subst hsz
  have hp : Rp (dC, dI) h0 ar ca (va_A (RW h0 ar ca st) s.heap.size) s.heap st s.heap [] := ⟨hP, hD0.self, va_S.rf⟩
  generalize hAe : va_A (RW h0 ar ca st) s.heap.size = A at hp hZ ⊢
  have hA : ∀ q : Nat, s.heap.size ≤ q → A q := fun q h => by rw [← hAe]; exact Or.inr h
  have hl := lv_entry ([.int p0, .int p1, .int p2, .int p3]) (n := 4) (Nat.le_of_ble_eq_true rfl)
  rw [lg_entry_eq]
  generalize (lg_sl ([.int p0, .int p1, .int p2, .int p3]) ++ List.replicate (4 - (lg_sl ([.int p0, .int p1, .int p2, .int p3])).length) Slot.unset).toArray = ls at hl ⊢
  have hl : lv_has ls 4 [(0, .int p0), (1, .int p1), (2, .int p2), (3, .int p3)] := hl
  unfold x9_place at hf
  refine lv_iload_n hx hb dX9_place_0 rfl (lv_at hl 0 rfl) ?_
  refine lv_bipush (v := 8) hx hb dX9_place_1 (by decide) ?_
  refine lv_imul hx hb dX9_place_3 ?_
  refine lv_iload_n hx hb dX9_place_4 rfl (lv_at hl 1 rfl) ?_
  refine lv_iadd hx hb dX9_place_5 ?_
  refine lv_bipush (v := 8) hx hb dX9_place_6 (by decide) ?_
  refine lv_imul hx hb dX9_place_8 ?_
  refine lv_iload_n hx hb dX9_place_9 rfl (lv_at hl 2 rfl) ?_
  refine lv_iadd hx hb dX9_place_10 ?_
  refine lv_iconst (v := 2) hx hb dX9_place_11 (by decide) ?_
  refine lv_imul hx hb dX9_place_12 ?_
  refine lv_iload_n hx hb dX9_place_13 rfl (lv_at hl 3 rfl) ?_
  refine lv_iadd hx hb dX9_place_14 ?_
  obtain ⟨e1, e2⟩ := pr_some hf
  exact W.iret (v := (((((p0 * 8) + p1) * 8) + p2) * 2) + p3) hx hb hr (fun t ht hW => ⟨⟨(((((p0 * 8) + p1) * 8) + p2) * 2) + p3, (), rfl, e1, Rp.end e2 hp hK ht hW⟩, hp.2.2.F ht⟩) hp.2.2.2.2 dX9_place_15
noncomputable def x9_sortOf (p0 : Int32) (p1 : Int32) (st : RS) : Option (Int32 × RS) := gd (vp_in ((31 * p0) + p1) 248) (nam (gF st 1 ((31 * p0) + p1).toNatClampNeg) (fun v_2 => pif (5 ≤ v_2) (some (v_2, st)) (some ((0 : Int32), st))))
def wq_X9_sortOf : List Cond := .code yX9_sortOf cX9_sortOf 4 (some .int) :: (([.fieldLink RX9 13 "RecordBenchModel" "kind" "[I"] : List Cond) ++ wsX90)
set_option maxHeartbeats 4000000 in
set_option maxRecDepth 100000 in
theorem c_X9_sortOf (l : Launch) (dC : Nat → ClassId) (dI : Nat → Nat → Nat) (h0 : Nat) (ar : Nat → Nat) (ca : Nat → ClassId) (p0 : Int32) (p1 : Int32) (st st' : RS) (r : Int32) (hf : x9_sortOf p0 p1 st = some (r, st')) (sz : Nat) : Met l yX9_sortOf wq_X9_sortOf ({ frames := 0, cells := 0, slots := 0, locals := 0 }) (va_Pc [.ref h0, .int p0, .int p1] (Pr (dC, dI) (rT ca) [] (RW h0 ar ca st) sz)) (va_Qi (fun r' (_ : Unit) => r' = r) (Bq (dC, dI) (fun _ => RW h0 ar ca st') (fun _ => []) (va_A (RW h0 ar ca st) sz)) (va_A (RW h0 ar ca st) sz)) 0 0 (va_A (RW h0 ar ca st) sz) := by
  refine Met.ofW (cc := cX9_sortOf) (maxL := 4) (ret := (some .int)) (by decide) rfl ?_
  intro p e s m args below meth c s₁ B hml hv
  obtain ⟨rfl, hsz, hP, hK, hD0, hN, hZ, hR⟩ := hv
  have hx := B.exec
  have hb := B.bytes
  have hr := B.returns
  have hts := atoms_spec (ws := wq_X9_sortOf) B.pre
  have hown : s.vm.findClass RX9 = some m.cls := findClass_of_methodNamed B.named
  have iRX9 : ∀ w ∈ u_ws RX9 TX9 60, w ∈ wq_X9_sortOf := fun w h => List.mem_cons_of_mem _ (List.mem_append_right _ h)
  subst hsz
  have hp : Rp (dC, dI) h0 ar ca (va_A (RW h0 ar ca st) s.heap.size) s.heap st s.heap [] := ⟨hP, hD0.self, va_S.rf⟩
  generalize hAe : va_A (RW h0 ar ca st) s.heap.size = A at hp hZ ⊢
  have hA : ∀ q : Nat, s.heap.size ≤ q → A q := fun q h => by rw [← hAe]; exact Or.inr h
  have hl := lv_entry ([.ref h0, .int p0, .int p1]) (n := 4) (Nat.le_of_ble_eq_true rfl)
  rw [lg_entry_eq]
  generalize (lg_sl ([.ref h0, .int p0, .int p1]) ++ List.replicate (4 - (lg_sl ([.ref h0, .int p0, .int p1])).length) Slot.unset).toArray = ls at hl ⊢
  have hl : lv_has ls 4 [(0, .ref h0), (1, .int p0), (2, .int p1)] := hl
  unfold x9_sortOf at hf
  refine lv_aload_n hx hb dX9_sortOf_0 rfl (lv_at hl 0 rfl) ?_
  refine r_ga hx hb hts iRX9 hown hK hp 1 (by decide) (by decide) (hts (.fieldLink RX9 13 "RecordBenchModel" "kind" "[I") (by decide +kernel)) dX9_sortOf_1 ?_
  refine lv_bipush (v := 31) hx hb dX9_sortOf_4 (by decide) ?_
  refine lv_iload_n hx hb dX9_sortOf_6 rfl (lv_at hl 1 rfl) ?_
  refine lv_imul hx hb dX9_sortOf_7 ?_
  refine lv_iload_n hx hb dX9_sortOf_8 rfl (lv_at hl 2 rfl) ?_
  refine lv_iadd hx hb dX9_sortOf_9 ?_
  obtain ⟨g_1, hf⟩ := gd_some hf
  refine r_ai (n := 248) hx hb hK hp 1 1 rfl rfl rfl g_1 dX9_sortOf_10 ?_
  obtain ⟨v_2, ev_2, hf⟩ := nam_some hf
  refine W_toi (y := v_2) ev_2.symm ?_
  refine lv_istore_n (lv' := [(3, .int v_2), (0, .ref h0), (1, .int p0), (2, .int p1)]) hx hb dX9_sortOf_11 rfl hl (by decide) rfl (fun ls hl => ?_)
  refine lv_iload_n hx hb dX9_sortOf_12 rfl (lv_at hl 0 rfl) ?_
  refine lv_iconst (v := 5) hx hb dX9_sortOf_13 (by decide) ?_
  refine lv_icmp_ge (tgt := 21) hx hb dX9_sortOf_14 (by decide) (fun c_3 => ?_) (fun c_3 => ?_)
  · have hf := pif_t c_3 hf
    refine lv_iload_n hx hb dX9_sortOf_21 rfl (lv_at hl 0 rfl) ?_
    obtain ⟨e1, e2⟩ := pr_some hf
    exact W.iret (v := v_2) hx hb hr (fun t ht hW => ⟨⟨v_2, (), rfl, e1, Rp.end e2 hp hK ht hW⟩, hp.2.2.F ht⟩) hp.2.2.2.2 dX9_sortOf_22
  · have hf := pif_f c_3 hf
    refine lv_iconst (v := 0) hx hb dX9_sortOf_17 (by decide) ?_
    refine lv_goto (tgt := 22) hx hb dX9_sortOf_18 (by decide) ?_
    obtain ⟨e1, e2⟩ := pr_some hf
    exact W.iret (v := 0) hx hb hr (fun t ht hW => ⟨⟨0, (), rfl, e1, Rp.end e2 hp hK ht hW⟩, hp.2.2.F ht⟩) hp.2.2.2.2 dX9_sortOf_22
noncomputable def x9_isOther (p0 : Int32) (p1 : Int32) (p2 : Int32) (st : RS) : Option (Int32 × RS) := bnd (x9_has p1 p2 st) (fun r_3 st_1 => pif (r_3 = 0) (some ((0 : Int32), st_1)) (bnd (x9_sortOf p0 p2 st_1) (fun r_7 st_5 => bnd (x9_sortOf p1 p2 st_5) (fun r_10 st_8 => pif (r_7 = r_10) (some ((0 : Int32), st_8)) (some ((1 : Int32), st_8))))))
def wq_X9_isOther : List Cond := .code yX9_isOther cX9_isOther 4 (some .boolean) :: (([.methodLink RX9 246 yX9_has, .instanceMethod yX9_has, .selects RX9 yX9_has yX9_has, .initialized RX9, .methodLink RX9 346 yX9_sortOf, .instanceMethod yX9_sortOf, .selects RX9 yX9_sortOf yX9_sortOf, .code yX9_has cX9_has 3 (some .boolean), .fieldLink RX9 36 "RecordBenchModel" "isThere" "[Z", .fieldLink RX9 13 "RecordBenchModel" "kind" "[I", .code yX9_sortOf cX9_sortOf 4 (some .int)] : List Cond) ++ wsX90)
theorem gs_wq_X9_isOther_wsX90 : GoodIn wq_X9_isOther wsX90 := fun w h => ⟨List.mem_cons_of_mem _ (List.mem_append_right _ h), (gt_wsX90 w h).2⟩
set_option maxRecDepth 20000 in
theorem gq_X9_isOther_X9_has_246 : GoodIn wq_X9_isOther (wsV RX9 246 RX9 yX9_has wq_X9_has) := goodIn_app (goodIn_r _ [1, 2, 3, 4] rfl rfl) (goodIn_ca (goodIn_r _ [8, 9, 10] rfl rfl) gs_wq_X9_isOther_wsX90)
set_option maxRecDepth 20000 in
theorem gq_X9_isOther_X9_sortOf_346 : GoodIn wq_X9_isOther (wsV RX9 346 RX9 yX9_sortOf wq_X9_sortOf) := goodIn_app (goodIn_r _ [5, 6, 7, 4] rfl rfl) (goodIn_ca (goodIn_r _ [11, 10] rfl rfl) gs_wq_X9_isOther_wsX90)
set_option maxHeartbeats 4000000 in
set_option maxRecDepth 100000 in
theorem c_X9_isOther (l : Launch) (dC : Nat → ClassId) (dI : Nat → Nat → Nat) (h0 : Nat) (ar : Nat → Nat) (ca : Nat → ClassId) (p0 : Int32) (p1 : Int32) (p2 : Int32) (st st' : RS) (r : Int32) (hf : x9_isOther p0 p1 p2 st = some (r, st')) (sz : Nat) : Met l yX9_isOther wq_X9_isOther ({ frames := 1, cells := 0, slots := 0, locals := 27 }) (va_Pc [.ref h0, .int p0, .int p1, .int p2] (Pr (dC, dI) (rT ca) [] (RW h0 ar ca st) sz)) (va_Qi (fun r' (_ : Unit) => r' = r) (Bq (dC, dI) (fun _ => RW h0 ar ca st') (fun _ => []) (va_A (RW h0 ar ca st) sz)) (va_A (RW h0 ar ca st) sz)) 0 0 (va_A (RW h0 ar ca st) sz) := by
  refine Met.ofW (cc := cX9_isOther) (maxL := 4) (ret := (some .boolean)) (by decide) rfl ?_
  intro p e s m args below meth c s₁ B hml hv
  obtain ⟨rfl, hsz, hP, hK, hD0, hN, hZ, hR⟩ := hv
  have hx := B.exec
  have hb := B.bytes
  have hr := B.returns
  have hts := atoms_spec (ws := wq_X9_isOther) B.pre
  have hown : s.vm.findClass RX9 = some m.cls := findClass_of_methodNamed B.named
  subst hsz
  have hp : Rp (dC, dI) h0 ar ca (va_A (RW h0 ar ca st) s.heap.size) s.heap st s.heap [] := ⟨hP, hD0.self, va_S.rf⟩
  generalize hAe : va_A (RW h0 ar ca st) s.heap.size = A at hp hZ ⊢
  have hA : ∀ q : Nat, s.heap.size ≤ q → A q := fun q h => by rw [← hAe]; exact Or.inr h
  have hl := lv_entry ([.ref h0, .int p0, .int p1, .int p2]) (n := 4) (Nat.le_of_ble_eq_true rfl)
  rw [lg_entry_eq]
  generalize (lg_sl ([.ref h0, .int p0, .int p1, .int p2]) ++ List.replicate (4 - (lg_sl ([.ref h0, .int p0, .int p1, .int p2])).length) Slot.unset).toArray = ls at hl ⊢
  have hl : lv_has ls 4 [(0, .ref h0), (1, .int p0), (2, .int p1), (3, .int p2)] := hl
  unfold x9_isOther at hf
  refine lv_aload_n hx hb dX9_isOther_0 rfl (lv_at hl 0 rfl) ?_
  refine lv_iload_n hx hb dX9_isOther_1 rfl (lv_at hl 2 rfl) ?_
  refine lv_iload_n hx hb dX9_isOther_2 rfl (lv_at hl 3 rfl) ?_
  obtain ⟨r_3, st_1, hc_2, hf⟩ := bnd_some hf
  refine r_ci hp hA (va_runV (As := [.int p1, .int p2]) (rest := []) ⟨hx, hb, hml, hown, hts⟩ (c_X9_has l dC dI h0 ar ca p1 p2 _ _ _ hc_2 _) (cwV 2 hts gq_X9_isOther_X9_has_246 rfl rfl rfl (by decide +kernel) ⟨Nat.le_of_ble_eq_true rfl, Nat.le_of_ble_eq_true rfl⟩) ⟨Pr.blind _, va_recv hK hp.1 (ci := 11) (q0 := 0) rfl rfl, r_pre hp hK hN hZ hA⟩ rfl rfl hl.1 rfl (lv_room (Nat.le_of_ble_eq_true rfl)) dX9_isOther_3 ⟨Nat.le_of_ble_eq_true rfl, Nat.le_of_ble_eq_true rfl⟩) (fun H locs hp => ?_)
  refine lv_if_eq (tgt := 28) hx hb dX9_isOther_6 (by decide) (fun c_4 => ?_) (fun c_4 => ?_)
  · have hf := pif_t c_4 hf
    refine lv_iconst (v := 0) hx hb dX9_isOther_28 (by decide) ?_
    obtain ⟨e1, e2⟩ := pr_some hf
    exact W.zret (v := 0) hx hb hr rfl (fun t ht hW => ⟨⟨0, (), rfl, e1, Rp.end e2 hp hK ht hW⟩, hp.2.2.F ht⟩) hp.2.2.2.2 dX9_isOther_29
  · have hf := pif_f c_4 hf
    refine lv_aload_n hx hb dX9_isOther_9 rfl (lv_at hl 0 rfl) ?_
    refine lv_iload_n hx hb dX9_isOther_10 rfl (lv_at hl 1 rfl) ?_
    refine lv_iload_n hx hb dX9_isOther_11 rfl (lv_at hl 3 rfl) ?_
    obtain ⟨r_7, st_5, hc_6, hf⟩ := bnd_some hf
    refine r_ci hp hA (va_runV (As := [.int p0, .int p2]) (rest := []) ⟨hx, hb, hml, hown, hts⟩ (c_X9_sortOf l dC dI h0 ar ca p0 p2 _ _ _ hc_6 _) (cwV 2 hts gq_X9_isOther_X9_sortOf_346 rfl rfl rfl (by decide +kernel) ⟨Nat.le_of_ble_eq_true rfl, Nat.le_of_ble_eq_true rfl⟩) ⟨Pr.blind _, va_recv hK hp.1 (ci := 11) (q0 := 0) rfl rfl, r_pre hp hK hN hZ hA⟩ rfl rfl hl.1 rfl (lv_room (Nat.le_of_ble_eq_true rfl)) dX9_isOther_12 ⟨Nat.le_of_ble_eq_true rfl, Nat.le_of_ble_eq_true rfl⟩) (fun H locs hp => ?_)
    refine lv_aload_n hx hb dX9_isOther_15 rfl (lv_at hl 0 rfl) ?_
    refine lv_iload_n hx hb dX9_isOther_16 rfl (lv_at hl 2 rfl) ?_
    refine lv_iload_n hx hb dX9_isOther_17 rfl (lv_at hl 3 rfl) ?_
    obtain ⟨r_10, st_8, hc_9, hf⟩ := bnd_some hf
    refine r_ci hp hA (va_runV (As := [.int p1, .int p2]) (rest := [.int r_7]) ⟨hx, hb, hml, hown, hts⟩ (c_X9_sortOf l dC dI h0 ar ca p1 p2 _ _ _ hc_9 _) (cwV 2 hts gq_X9_isOther_X9_sortOf_346 rfl rfl rfl (by decide +kernel) ⟨Nat.le_of_ble_eq_true rfl, Nat.le_of_ble_eq_true rfl⟩) ⟨Pr.blind _, va_recv hK hp.1 (ci := 11) (q0 := 0) rfl rfl, r_pre hp hK hN hZ hA⟩ rfl rfl hl.1 rfl (lv_room (Nat.le_of_ble_eq_true rfl)) dX9_isOther_18 ⟨Nat.le_of_ble_eq_true rfl, Nat.le_of_ble_eq_true rfl⟩) (fun H locs hp => ?_)
    refine lv_icmp_eq (tgt := 28) hx hb dX9_isOther_21 (by decide) (fun c_11 => ?_) (fun c_11 => ?_)
    · have hf := pif_t c_11 hf
      refine lv_iconst (v := 0) hx hb dX9_isOther_28 (by decide) ?_
      obtain ⟨e1, e2⟩ := pr_some hf
      exact W.zret (v := 0) hx hb hr rfl (fun t ht hW => ⟨⟨0, (), rfl, e1, Rp.end e2 hp hK ht hW⟩, hp.2.2.F ht⟩) hp.2.2.2.2 dX9_isOther_29
    · have hf := pif_f c_11 hf
      refine lv_iconst (v := 1) hx hb dX9_isOther_24 (by decide) ?_
      refine lv_goto (tgt := 29) hx hb dX9_isOther_25 (by decide) ?_
      obtain ⟨e1, e2⟩ := pr_some hf
      exact W.zret (v := 1) hx hb hr rfl (fun t ht hW => ⟨⟨1, (), rfl, e1, Rp.end e2 hp hK ht hW⟩, hp.2.2.F ht⟩) hp.2.2.2.2 dX9_isOther_29
noncomputable def x9_isNarrower (p0 : Int32) (p1 : Int32) (p2 : Int32) (st : RS) : Option (Int32 × RS) := bnd (x9_has p1 p2 st) (fun r_3 st_1 => pif (r_3 = 0) (some ((0 : Int32), st_1)) (bnd (x9_sortOf p0 p2 st_1) (fun r_7 st_5 => pif (r_7 = 0) (gd (vp_in ((31 * p1) + p2) 248) (gd (vp_in ((31 * p0) + p2) 248) (pif ((gF st_5 1 ((31 * p0) + p2).toNatClampNeg) ≤ (gF st_5 1 ((31 * p1) + p2).toNatClampNeg)) (some ((0 : Int32), st_5)) (some ((1 : Int32), st_5))))) (some ((0 : Int32), st_5)))))
def wq_X9_isNarrower : List Cond := .code yX9_isNarrower cX9_isNarrower 4 (some .boolean) :: (([.fieldLink RX9 13 "RecordBenchModel" "kind" "[I", .methodLink RX9 246 yX9_has, .instanceMethod yX9_has, .selects RX9 yX9_has yX9_has, .initialized RX9, .methodLink RX9 346 yX9_sortOf, .instanceMethod yX9_sortOf, .selects RX9 yX9_sortOf yX9_sortOf, .code yX9_has cX9_has 3 (some .boolean), .fieldLink RX9 36 "RecordBenchModel" "isThere" "[Z", .code yX9_sortOf cX9_sortOf 4 (some .int)] : List Cond) ++ wsX90)
theorem gs_wq_X9_isNarrower_wsX90 : GoodIn wq_X9_isNarrower wsX90 := fun w h => ⟨List.mem_cons_of_mem _ (List.mem_append_right _ h), (gt_wsX90 w h).2⟩
set_option maxRecDepth 20000 in
theorem gq_X9_isNarrower_X9_has_246 : GoodIn wq_X9_isNarrower (wsV RX9 246 RX9 yX9_has wq_X9_has) := goodIn_app (goodIn_r _ [2, 3, 4, 5] rfl rfl) (goodIn_ca (goodIn_r _ [9, 10, 1] rfl rfl) gs_wq_X9_isNarrower_wsX90)
set_option maxRecDepth 20000 in
theorem gq_X9_isNarrower_X9_sortOf_346 : GoodIn wq_X9_isNarrower (wsV RX9 346 RX9 yX9_sortOf wq_X9_sortOf) := goodIn_app (goodIn_r _ [6, 7, 8, 5] rfl rfl) (goodIn_ca (goodIn_r _ [11, 1] rfl rfl) gs_wq_X9_isNarrower_wsX90)
set_option maxHeartbeats 4000000 in
set_option maxRecDepth 100000 in
theorem c_X9_isNarrower (l : Launch) (dC : Nat → ClassId) (dI : Nat → Nat → Nat) (h0 : Nat) (ar : Nat → Nat) (ca : Nat → ClassId) (p0 : Int32) (p1 : Int32) (p2 : Int32) (st st' : RS) (r : Int32) (hf : x9_isNarrower p0 p1 p2 st = some (r, st')) (sz : Nat) : Met l yX9_isNarrower wq_X9_isNarrower ({ frames := 1, cells := 0, slots := 0, locals := 27 }) (va_Pc [.ref h0, .int p0, .int p1, .int p2] (Pr (dC, dI) (rT ca) [] (RW h0 ar ca st) sz)) (va_Qi (fun r' (_ : Unit) => r' = r) (Bq (dC, dI) (fun _ => RW h0 ar ca st') (fun _ => []) (va_A (RW h0 ar ca st) sz)) (va_A (RW h0 ar ca st) sz)) 0 0 (va_A (RW h0 ar ca st) sz) := by
  refine Met.ofW (cc := cX9_isNarrower) (maxL := 4) (ret := (some .boolean)) (by decide) rfl ?_
  intro p e s m args below meth c s₁ B hml hv
  obtain ⟨rfl, hsz, hP, hK, hD0, hN, hZ, hR⟩ := hv
  have hx := B.exec
  have hb := B.bytes
  have hr := B.returns
  have hts := atoms_spec (ws := wq_X9_isNarrower) B.pre
  have hown : s.vm.findClass RX9 = some m.cls := findClass_of_methodNamed B.named
  have iRX9 : ∀ w ∈ u_ws RX9 TX9 60, w ∈ wq_X9_isNarrower := fun w h => List.mem_cons_of_mem _ (List.mem_append_right _ h)
  subst hsz
  have hp : Rp (dC, dI) h0 ar ca (va_A (RW h0 ar ca st) s.heap.size) s.heap st s.heap [] := ⟨hP, hD0.self, va_S.rf⟩
  generalize hAe : va_A (RW h0 ar ca st) s.heap.size = A at hp hZ ⊢
  have hA : ∀ q : Nat, s.heap.size ≤ q → A q := fun q h => by rw [← hAe]; exact Or.inr h
  have hl := lv_entry ([.ref h0, .int p0, .int p1, .int p2]) (n := 4) (Nat.le_of_ble_eq_true rfl)
  rw [lg_entry_eq]
  generalize (lg_sl ([.ref h0, .int p0, .int p1, .int p2]) ++ List.replicate (4 - (lg_sl ([.ref h0, .int p0, .int p1, .int p2])).length) Slot.unset).toArray = ls at hl ⊢
  have hl : lv_has ls 4 [(0, .ref h0), (1, .int p0), (2, .int p1), (3, .int p2)] := hl
  unfold x9_isNarrower at hf
  refine lv_aload_n hx hb dX9_isNarrower_0 rfl (lv_at hl 0 rfl) ?_
  refine lv_iload_n hx hb dX9_isNarrower_1 rfl (lv_at hl 2 rfl) ?_
  refine lv_iload_n hx hb dX9_isNarrower_2 rfl (lv_at hl 3 rfl) ?_
  obtain ⟨r_3, st_1, hc_2, hf⟩ := bnd_some hf
  refine r_ci hp hA (va_runV (As := [.int p1, .int p2]) (rest := []) ⟨hx, hb, hml, hown, hts⟩ (c_X9_has l dC dI h0 ar ca p1 p2 _ _ _ hc_2 _) (cwV 2 hts gq_X9_isNarrower_X9_has_246 rfl rfl rfl (by decide +kernel) ⟨Nat.le_of_ble_eq_true rfl, Nat.le_of_ble_eq_true rfl⟩) ⟨Pr.blind _, va_recv hK hp.1 (ci := 11) (q0 := 0) rfl rfl, r_pre hp hK hN hZ hA⟩ rfl rfl hl.1 rfl (lv_room (Nat.le_of_ble_eq_true rfl)) dX9_isNarrower_3 ⟨Nat.le_of_ble_eq_true rfl, Nat.le_of_ble_eq_true rfl⟩) (fun H locs hp => ?_)
  refine lv_if_eq (tgt := 47) hx hb dX9_isNarrower_6 (by decide) (fun c_4 => ?_) (fun c_4 => ?_)
  · have hf := pif_t c_4 hf
    refine lv_iconst (v := 0) hx hb dX9_isNarrower_47 (by decide) ?_
    obtain ⟨e1, e2⟩ := pr_some hf
    exact W.zret (v := 0) hx hb hr rfl (fun t ht hW => ⟨⟨0, (), rfl, e1, Rp.end e2 hp hK ht hW⟩, hp.2.2.F ht⟩) hp.2.2.2.2 dX9_isNarrower_48
  · have hf := pif_f c_4 hf
    refine lv_aload_n hx hb dX9_isNarrower_9 rfl (lv_at hl 0 rfl) ?_
    refine lv_iload_n hx hb dX9_isNarrower_10 rfl (lv_at hl 1 rfl) ?_
    refine lv_iload_n hx hb dX9_isNarrower_11 rfl (lv_at hl 3 rfl) ?_
    obtain ⟨r_7, st_5, hc_6, hf⟩ := bnd_some hf
    refine r_ci hp hA (va_runV (As := [.int p0, .int p2]) (rest := []) ⟨hx, hb, hml, hown, hts⟩ (c_X9_sortOf l dC dI h0 ar ca p0 p2 _ _ _ hc_6 _) (cwV 2 hts gq_X9_isNarrower_X9_sortOf_346 rfl rfl rfl (by decide +kernel) ⟨Nat.le_of_ble_eq_true rfl, Nat.le_of_ble_eq_true rfl⟩) ⟨Pr.blind _, va_recv hK hp.1 (ci := 11) (q0 := 0) rfl rfl, r_pre hp hK hN hZ hA⟩ rfl rfl hl.1 rfl (lv_room (Nat.le_of_ble_eq_true rfl)) dX9_isNarrower_12 ⟨Nat.le_of_ble_eq_true rfl, Nat.le_of_ble_eq_true rfl⟩) (fun H locs hp => ?_)
    refine lv_if_ne (tgt := 47) hx hb dX9_isNarrower_15 (by decide) (fun c_8 => ?_) (fun c_8 => ?_)
    · have hf := pif_f c_8 hf
      refine lv_iconst (v := 0) hx hb dX9_isNarrower_47 (by decide) ?_
      obtain ⟨e1, e2⟩ := pr_some hf
      exact W.zret (v := 0) hx hb hr rfl (fun t ht hW => ⟨⟨0, (), rfl, e1, Rp.end e2 hp hK ht hW⟩, hp.2.2.F ht⟩) hp.2.2.2.2 dX9_isNarrower_48
    · have hf := pif_t c_8 hf
      refine lv_aload_n hx hb dX9_isNarrower_18 rfl (lv_at hl 0 rfl) ?_
      refine r_ga hx hb hts iRX9 hown hK hp 1 (by decide) (by decide) (hts (.fieldLink RX9 13 "RecordBenchModel" "kind" "[I") (by decide +kernel)) dX9_isNarrower_19 ?_
      refine lv_bipush (v := 31) hx hb dX9_isNarrower_22 (by decide) ?_
      refine lv_iload_n hx hb dX9_isNarrower_24 rfl (lv_at hl 2 rfl) ?_
      refine lv_imul hx hb dX9_isNarrower_25 ?_
      refine lv_iload_n hx hb dX9_isNarrower_26 rfl (lv_at hl 3 rfl) ?_
      refine lv_iadd hx hb dX9_isNarrower_27 ?_
      obtain ⟨g_9, hf⟩ := gd_some hf
      refine r_ai (n := 248) hx hb hK hp 1 1 rfl rfl rfl g_9 dX9_isNarrower_28 ?_
      refine lv_aload_n hx hb dX9_isNarrower_29 rfl (lv_at hl 0 rfl) ?_
      refine r_ga hx hb hts iRX9 hown hK hp 1 (by decide) (by decide) (hts (.fieldLink RX9 13 "RecordBenchModel" "kind" "[I") (by decide +kernel)) dX9_isNarrower_30 ?_
      refine lv_bipush (v := 31) hx hb dX9_isNarrower_33 (by decide) ?_
      refine lv_iload_n hx hb dX9_isNarrower_35 rfl (lv_at hl 1 rfl) ?_
      refine lv_imul hx hb dX9_isNarrower_36 ?_
      refine lv_iload_n hx hb dX9_isNarrower_37 rfl (lv_at hl 3 rfl) ?_
      refine lv_iadd hx hb dX9_isNarrower_38 ?_
      obtain ⟨g_10, hf⟩ := gd_some hf
      refine r_ai (n := 248) hx hb hK hp 1 1 rfl rfl rfl g_10 dX9_isNarrower_39 ?_
      refine lv_icmp_ge (tgt := 47) hx hb dX9_isNarrower_40 (by decide) (fun c_11 => ?_) (fun c_11 => ?_)
      · have hf := pif_t c_11 hf
        refine lv_iconst (v := 0) hx hb dX9_isNarrower_47 (by decide) ?_
        obtain ⟨e1, e2⟩ := pr_some hf
        exact W.zret (v := 0) hx hb hr rfl (fun t ht hW => ⟨⟨0, (), rfl, e1, Rp.end e2 hp hK ht hW⟩, hp.2.2.F ht⟩) hp.2.2.2.2 dX9_isNarrower_48
      · have hf := pif_f c_11 hf
        refine lv_iconst (v := 1) hx hb dX9_isNarrower_43 (by decide) ?_
        refine lv_goto (tgt := 48) hx hb dX9_isNarrower_44 (by decide) ?_
        obtain ⟨e1, e2⟩ := pr_some hf
        exact W.zret (v := 1) hx hb hr rfl (fun t ht hW => ⟨⟨1, (), rfl, e1, Rp.end e2 hp hK ht hW⟩, hp.2.2.F ht⟩) hp.2.2.2.2 dX9_isNarrower_48
noncomputable def x9_differs_127 (k64 : Int32 → Int32 → Int32 → Int32 → Int32 → Int32 → RS → Option (Int32 × RS)) (l1 : Int32) (l3 : Int32) (l4 : Int32) (l5 : Int32) (l7 : Int32) (s0 : Int32) (st : RS) : Option (Int32 × RS) := nam (l7 + 1) (fun v_1 => k64 l1 l3 l4 l5 s0 v_1 st)
noncomputable def x9_differs_122 (k64 : Int32 → Int32 → Int32 → Int32 → Int32 → Int32 → RS → Option (Int32 × RS)) (l1 : Int32) (l3 : Int32) (l4 : Int32) (l5 : Int32) (l7 : Int32) (st : RS) : Option (Int32 × RS) := x9_differs_127 k64 l1 l3 l4 l5 l7 1 st
noncomputable def x9_differs_64  : Nat → Int32 → Int32 → Int32 → Int32 → Int32 → Int32 → RS → Option (Int32 × RS)
  | 0 => fun _ _ _ _ _ _ _ => none
  | n + 1 => fun l1 l3 l4 l5 l6 l7 st => gd (vp_in l4 248) (pif (0 ≤ (lg_cmp l7.toInt64 (gL st 6 l4.toNatClampNeg))) (gd (narrow .boolean (.int l6) = .int l6) (some (l6, st))) (bnd (x9_sortOf l1 l3 st) (fun r_6 st_4 => pif (r_6 = 5) (pif (l6 = 0) (gd (vp_in ((12 * l4) + l7) 2976) (gd (vp_in ((12 * l5) + l7) 2976) (pif ((gF st_4 7 ((12 * l4) + l7).toNatClampNeg) = (gF st_4 7 ((12 * l5) + l7).toNatClampNeg)) (x9_differs_127 (x9_differs_64 n) l1 l3 l4 l5 l7 0 st_4) (x9_differs_122 (x9_differs_64 n) l1 l3 l4 l5 l7 st_4)))) (x9_differs_122 (x9_differs_64 n) l1 l3 l4 l5 l7 st_4)) (gd (narrow .boolean (.int l6) = .int l6) (some (l6, st_4))))))
theorem x9_differs_64_z  (l1 : Int32) (l3 : Int32) (l4 : Int32) (l5 : Int32) (l6 : Int32) (l7 : Int32) (st : RS) : x9_differs_64  0 l1 l3 l4 l5 l6 l7 st = none := rfl
theorem x9_differs_64_s  (n : Nat) (l1 : Int32) (l3 : Int32) (l4 : Int32) (l5 : Int32) (l6 : Int32) (l7 : Int32) (st : RS) : x9_differs_64  (n + 1) l1 l3 l4 l5 l6 l7 st = gd (vp_in l4 248) (pif (0 ≤ (lg_cmp l7.toInt64 (gL st 6 l4.toNatClampNeg))) (gd (narrow .boolean (.int l6) = .int l6) (some (l6, st))) (bnd (x9_sortOf l1 l3 st) (fun r_6 st_4 => pif (r_6 = 5) (pif (l6 = 0) (gd (vp_in ((12 * l4) + l7) 2976) (gd (vp_in ((12 * l5) + l7) 2976) (pif ((gF st_4 7 ((12 * l4) + l7).toNatClampNeg) = (gF st_4 7 ((12 * l5) + l7).toNatClampNeg)) (x9_differs_127 (x9_differs_64 n) l1 l3 l4 l5 l7 0 st_4) (x9_differs_122 (x9_differs_64 n) l1 l3 l4 l5 l7 st_4)))) (x9_differs_122 (x9_differs_64 n) l1 l3 l4 l5 l7 st_4)) (gd (narrow .boolean (.int l6) = .int l6) (some (l6, st_4)))))) := rfl
noncomputable def x9_differs (p0 : Int32) (p1 : Int32) (p2 : Int32) (st : RS) : Option (Int32 × RS) := bnd (x9_has p1 p2 st) (fun r_14 st_12 => pif (r_14 = 0) (some ((0 : Int32), st_12)) (bnd (x9_sortOf p0 p2 st_12) (fun r_18 st_16 => pif (r_18 = 6) (some ((0 : Int32), st_16)) (nam ((31 * p0) + p2) (fun v_20 => nam ((31 * p1) + p2) (fun v_21 => gd (vp_in v_20 248) (gd (vp_in v_21 248) (pif ((lg_cmp (gL st_16 6 v_20.toNatClampNeg) (gL st_16 6 v_21.toNatClampNeg)) = 0) (x9_differs_64  fuel p0 p2 v_20 v_21 0 0 st_16) (some ((1 : Int32), st_16))))))))))
def wq_X9_differs : List Cond := .code yX9_differs cX9_differs 8 (some .boolean) :: (([.fieldLink RX9 30 "RecordBenchModel" "plain" "[J", .fieldLink RX9 33 "RecordBenchModel" "plainText" "[I", .methodLink RX9 346 yX9_sortOf, .instanceMethod yX9_sortOf, .selects RX9 yX9_sortOf yX9_sortOf, .initialized RX9, .methodLink RX9 246 yX9_has, .instanceMethod yX9_has, .selects RX9 yX9_has yX9_has, .code yX9_sortOf cX9_sortOf 4 (some .int), .fieldLink RX9 13 "RecordBenchModel" "kind" "[I", .code yX9_has cX9_has 3 (some .boolean), .fieldLink RX9 36 "RecordBenchModel" "isThere" "[Z"] : List Cond) ++ wsX90)
theorem gs_wq_X9_differs_wsX90 : GoodIn wq_X9_differs wsX90 := fun w h => ⟨List.mem_cons_of_mem _ (List.mem_append_right _ h), (gt_wsX90 w h).2⟩
set_option maxRecDepth 20000 in
theorem gq_X9_differs_X9_sortOf_346 : GoodIn wq_X9_differs (wsV RX9 346 RX9 yX9_sortOf wq_X9_sortOf) := goodIn_app (goodIn_r _ [3, 4, 5, 6] rfl rfl) (goodIn_ca (goodIn_r _ [10, 11] rfl rfl) gs_wq_X9_differs_wsX90)
set_option maxRecDepth 20000 in
theorem gq_X9_differs_X9_has_246 : GoodIn wq_X9_differs (wsV RX9 246 RX9 yX9_has wq_X9_has) := goodIn_app (goodIn_r _ [7, 8, 9, 6] rfl rfl) (goodIn_ca (goodIn_r _ [12, 13, 11] rfl rfl) gs_wq_X9_differs_wsX90)
set_option maxHeartbeats 4000000 in
set_option maxRecDepth 100000 in
theorem c_X9_differs (l : Launch) (dC : Nat → ClassId) (dI : Nat → Nat → Nat) (h0 : Nat) (ar : Nat → Nat) (ca : Nat → ClassId) (p0 : Int32) (p1 : Int32) (p2 : Int32) (st st' : RS) (r : Int32) (hf : x9_differs p0 p1 p2 st = some (r, st')) (sz : Nat) : Met l yX9_differs wq_X9_differs ({ frames := 1, cells := 0, slots := 0, locals := 27 }) (va_Pc [.ref h0, .int p0, .int p1, .int p2] (Pr (dC, dI) (rT ca) [] (RW h0 ar ca st) sz)) (va_Qi (fun r' (_ : Unit) => r' = r) (Bq (dC, dI) (fun _ => RW h0 ar ca st') (fun _ => []) (va_A (RW h0 ar ca st) sz)) (va_A (RW h0 ar ca st) sz)) 0 0 (va_A (RW h0 ar ca st) sz) := by
  refine Met.ofW (cc := cX9_differs) (maxL := 8) (ret := (some .boolean)) (by decide) rfl ?_
  intro p e s m args below meth c s₁ B hml hv
  obtain ⟨rfl, hsz, hP, hK, hD0, hN, hZ, hR⟩ := hv
  have hx := B.exec
  have hb := B.bytes
  have hr := B.returns
  have hts := atoms_spec (ws := wq_X9_differs) B.pre
  have hown : s.vm.findClass RX9 = some m.cls := findClass_of_methodNamed B.named
  have iRX9 : ∀ w ∈ u_ws RX9 TX9 60, w ∈ wq_X9_differs := fun w h => List.mem_cons_of_mem _ (List.mem_append_right _ h)
  subst hsz
  have hp : Rp (dC, dI) h0 ar ca (va_A (RW h0 ar ca st) s.heap.size) s.heap st s.heap [] := ⟨hP, hD0.self, va_S.rf⟩
  generalize hAe : va_A (RW h0 ar ca st) s.heap.size = A at hp hZ ⊢
  have hA : ∀ q : Nat, s.heap.size ≤ q → A q := fun q h => by rw [← hAe]; exact Or.inr h
  have hl := lv_entry ([.ref h0, .int p0, .int p1, .int p2]) (n := 8) (Nat.le_of_ble_eq_true rfl)
  rw [lg_entry_eq]
  generalize (lg_sl ([.ref h0, .int p0, .int p1, .int p2]) ++ List.replicate (8 - (lg_sl ([.ref h0, .int p0, .int p1, .int p2])).length) Slot.unset).toArray = ls at hl ⊢
  have hl : lv_has ls 8 [(0, .ref h0), (1, .int p0), (2, .int p1), (3, .int p2)] := hl
  refine W_lp (fun n64 (u : Int32 × Int32 × Int32 × Int32 × Int32 × Int32 × RS) H locs ls => match u with | (l1, l3, l4, l5, l6, l7, st) => x9_differs_64 n64 l1 l3 l4 l5 l6 l7 st = some (r, st') ∧ Rp (dC, dI) h0 ar ca A s.heap st H locs ∧ lv_has ls 8 [(0, .ref h0), (1, .int l1), (3, .int l3), (4, .int l4), (5, .int l5), (6, .int l6), (7, .int l7)]) (fun (u : Int32 × Int32 × Int32 × Int32 × Int32 × Int32 × RS) ls => match u with | (l1, l3, l4, l5, l6, l7, st) => F0 m 64 ls []) ?_ ?_ (fun J64 => ?_)
  · intro u H locs ls hu
    obtain ⟨l1, l3, l4, l5, l6, l7, st⟩ := u
    obtain ⟨hf, hp, hl⟩ := hu
    rw [x9_differs_64_z] at hf
    cases hf
  · intro n64 ih64 u H locs ls hu
    obtain ⟨l1, l3, l4, l5, l6, l7, st⟩ := u
    obtain ⟨hf, hp, hl⟩ := hu
    show W p l e _ s m _ below meth c _ _ _ _ _ (F0 m 64 ls [])
    refine W_blk (fun (u : Int32 × Int32 × Int32 × Int32 × Int32 × Int32 × RS) H locs ls => match u with | (l1, l3, l4, l5, l7, s0, st) => x9_differs_127 (x9_differs_64 n64) l1 l3 l4 l5 l7 s0 st = some (r, st') ∧ Rp (dC, dI) h0 ar ca A s.heap st H locs ∧ lv_has ls 8 [(0, .ref h0), (1, .int l1), (3, .int l3), (4, .int l4), (5, .int l5), (7, .int l7)]) (fun (u : Int32 × Int32 × Int32 × Int32 × Int32 × Int32 × RS) ls => match u with | (l1, l3, l4, l5, l7, s0, st) => F0 m 127 ls [.int s0]) ?_ (fun J127 => ?_)
    · intro u H locs ls hu
      obtain ⟨l1, l3, l4, l5, l7, s0, st⟩ := u
      obtain ⟨hf, hp, hl⟩ := hu
      show W p l e _ s m _ below meth c _ _ _ _ _ (F0 m 127 ls [.int s0])
      unfold x9_differs_127 at hf
      refine lv_istore (lv' := [(6, .int s0), (0, .ref h0), (1, .int l1), (3, .int l3), (4, .int l4), (5, .int l5), (7, .int l7)]) hx hb dX9_differs_127 hl (by decide) rfl (fun ls hl => ?_)
      obtain ⟨v_1, ev_1, hf⟩ := nam_some hf
      refine lv_iinc (v := v_1) (lv' := [(7, .int v_1), (6, .int s0), (0, .ref h0), (1, .int l1), (3, .int l3), (4, .int l4), (5, .int l5)]) hx hb dX9_differs_129 hl (k := 6) rfl ev_1.symm (by decide) rfl (fun ls hl => ?_)
      refine lv_goto (tgt := 64) hx hb dX9_differs_132 (by decide) ?_
      exact ih64 (l1, l3, l4, l5, s0, v_1, st) _ _ _ ⟨hf, hp, (lv_sub hl [2, 3, 4, 5, 6, 1, 0] rfl)⟩
    refine W_blk (fun (u : Int32 × Int32 × Int32 × Int32 × Int32 × RS) H locs ls => match u with | (l1, l3, l4, l5, l7, st) => x9_differs_122 (x9_differs_64 n64) l1 l3 l4 l5 l7 st = some (r, st') ∧ Rp (dC, dI) h0 ar ca A s.heap st H locs ∧ lv_has ls 8 [(0, .ref h0), (1, .int l1), (3, .int l3), (4, .int l4), (5, .int l5), (7, .int l7)]) (fun (u : Int32 × Int32 × Int32 × Int32 × Int32 × RS) ls => match u with | (l1, l3, l4, l5, l7, st) => F0 m 122 ls []) ?_ (fun J122 => ?_)
    · intro u H locs ls hu
      obtain ⟨l1, l3, l4, l5, l7, st⟩ := u
      obtain ⟨hf, hp, hl⟩ := hu
      show W p l e _ s m _ below meth c _ _ _ _ _ (F0 m 122 ls [])
      unfold x9_differs_122 at hf
      refine lv_iconst (v := 1) hx hb dX9_differs_122 (by decide) ?_
      refine lv_goto (tgt := 127) hx hb dX9_differs_123 (by decide) ?_
      exact J127 (l1, l3, l4, l5, l7, 1, st) _ _ _ ⟨hf, hp, (lv_sub hl [0, 1, 2, 3, 4, 5] rfl)⟩
    rw [x9_differs_64_s] at hf
    refine lv_iload hx hb dX9_differs_64 (lv_at hl 6 rfl) ?_
    refine lv_i2l (v := l7.toInt64) hx hb dX9_differs_66 rfl ?_
    refine lv_aload_n hx hb dX9_differs_67 rfl (lv_at hl 0 rfl) ?_
    refine r_ga hx hb hts iRX9 hown hK hp 6 (by decide) (by decide) (hts (.fieldLink RX9 30 "RecordBenchModel" "plain" "[J") (by decide +kernel)) dX9_differs_68 ?_
    refine lv_iload hx hb dX9_differs_71 (lv_at hl 3 rfl) ?_
    obtain ⟨g_2, hf⟩ := gd_some hf
    refine r_aj (n := 248) hx hb hK hp 6 6 rfl rfl rfl g_2 dX9_differs_73 ?_
    refine W.lcmp hx hb dX9_differs_74 ?_
    refine lv_if_ge (tgt := 135) hx hb dX9_differs_75 (by decide) (fun c_3 => ?_) (fun c_3 => ?_)
    · have hf := pif_t c_3 hf
      refine lv_iload hx hb dX9_differs_135 (lv_at hl 5 rfl) ?_
      obtain ⟨hz, hf⟩ := gd_some hf
      obtain ⟨e1, e2⟩ := pr_some hf
      exact W.zret (v := l6) hx hb hr hz (fun t ht hW => ⟨⟨l6, (), rfl, e1, Rp.end e2 hp hK ht hW⟩, hp.2.2.F ht⟩) hp.2.2.2.2 dX9_differs_137
    · have hf := pif_f c_3 hf
      refine lv_aload_n hx hb dX9_differs_78 rfl (lv_at hl 0 rfl) ?_
      refine lv_iload_n hx hb dX9_differs_79 rfl (lv_at hl 1 rfl) ?_
      refine lv_iload_n hx hb dX9_differs_80 rfl (lv_at hl 2 rfl) ?_
      obtain ⟨r_6, st_4, hc_5, hf⟩ := bnd_some hf
      refine r_ci hp hA (va_runV (As := [.int l1, .int l3]) (rest := []) ⟨hx, hb, hml, hown, hts⟩ (c_X9_sortOf l dC dI h0 ar ca l1 l3 _ _ _ hc_5 _) (cwV 2 hts gq_X9_differs_X9_sortOf_346 rfl rfl rfl (by decide +kernel) ⟨Nat.le_of_ble_eq_true rfl, Nat.le_of_ble_eq_true rfl⟩) ⟨Pr.blind _, va_recv hK hp.1 (ci := 11) (q0 := 0) rfl rfl, r_pre hp hK hN hZ hA⟩ rfl rfl hl.1 rfl (lv_room (Nat.le_of_ble_eq_true rfl)) dX9_differs_81 ⟨Nat.le_of_ble_eq_true rfl, Nat.le_of_ble_eq_true rfl⟩) (fun H locs hp => ?_)
      refine lv_iconst (v := 5) hx hb dX9_differs_84 (by decide) ?_
      refine lv_icmp_ne (tgt := 135) hx hb dX9_differs_85 (by decide) (fun c_7 => ?_) (fun c_7 => ?_)
      · have hf := pif_f c_7 hf
        refine lv_iload hx hb dX9_differs_135 (lv_at hl 5 rfl) ?_
        obtain ⟨hz, hf⟩ := gd_some hf
        obtain ⟨e1, e2⟩ := pr_some hf
        exact W.zret (v := l6) hx hb hr hz (fun t ht hW => ⟨⟨l6, (), rfl, e1, Rp.end e2 hp hK ht hW⟩, hp.2.2.F ht⟩) hp.2.2.2.2 dX9_differs_137
      · have hf := pif_t c_7 hf
        refine lv_iload hx hb dX9_differs_88 (lv_at hl 5 rfl) ?_
        refine lv_if_ne (tgt := 122) hx hb dX9_differs_90 (by decide) (fun c_8 => ?_) (fun c_8 => ?_)
        · have hf := pif_f c_8 hf
          exact J122 (l1, l3, l4, l5, l7, st_4) _ _ _ ⟨hf, hp, (lv_sub hl [0, 1, 2, 3, 4, 6] rfl)⟩
        · have hf := pif_t c_8 hf
          refine lv_aload_n hx hb dX9_differs_93 rfl (lv_at hl 0 rfl) ?_
          refine r_ga hx hb hts iRX9 hown hK hp 7 (by decide) (by decide) (hts (.fieldLink RX9 33 "RecordBenchModel" "plainText" "[I") (by decide +kernel)) dX9_differs_94 ?_
          refine lv_bipush (v := 12) hx hb dX9_differs_97 (by decide) ?_
          refine lv_iload hx hb dX9_differs_99 (lv_at hl 3 rfl) ?_
          refine lv_imul hx hb dX9_differs_101 ?_
          refine lv_iload hx hb dX9_differs_102 (lv_at hl 6 rfl) ?_
          refine lv_iadd hx hb dX9_differs_104 ?_
          obtain ⟨g_9, hf⟩ := gd_some hf
          refine r_ai (n := 2976) hx hb hK hp 7 7 rfl rfl rfl g_9 dX9_differs_105 ?_
          refine lv_aload_n hx hb dX9_differs_106 rfl (lv_at hl 0 rfl) ?_
          refine r_ga hx hb hts iRX9 hown hK hp 7 (by decide) (by decide) (hts (.fieldLink RX9 33 "RecordBenchModel" "plainText" "[I") (by decide +kernel)) dX9_differs_107 ?_
          refine lv_bipush (v := 12) hx hb dX9_differs_110 (by decide) ?_
          refine lv_iload hx hb dX9_differs_112 (lv_at hl 4 rfl) ?_
          refine lv_imul hx hb dX9_differs_114 ?_
          refine lv_iload hx hb dX9_differs_115 (lv_at hl 6 rfl) ?_
          refine lv_iadd hx hb dX9_differs_117 ?_
          obtain ⟨g_10, hf⟩ := gd_some hf
          refine r_ai (n := 2976) hx hb hK hp 7 7 rfl rfl rfl g_10 dX9_differs_118 ?_
          refine lv_icmp_eq (tgt := 126) hx hb dX9_differs_119 (by decide) (fun c_11 => ?_) (fun c_11 => ?_)
          · have hf := pif_t c_11 hf
            refine lv_iconst (v := 0) hx hb dX9_differs_126 (by decide) ?_
            exact J127 (l1, l3, l4, l5, l7, 0, st_4) _ _ _ ⟨hf, hp, (lv_sub hl [0, 1, 2, 3, 4, 6] rfl)⟩
          · have hf := pif_f c_11 hf
            exact J122 (l1, l3, l4, l5, l7, st_4) _ _ _ ⟨hf, hp, (lv_sub hl [0, 1, 2, 3, 4, 6] rfl)⟩
  unfold x9_differs at hf
  refine lv_aload_n hx hb dX9_differs_0 rfl (lv_at hl 0 rfl) ?_
  refine lv_iload_n hx hb dX9_differs_1 rfl (lv_at hl 2 rfl) ?_
  refine lv_iload_n hx hb dX9_differs_2 rfl (lv_at hl 3 rfl) ?_
  obtain ⟨r_14, st_12, hc_13, hf⟩ := bnd_some hf
  refine r_ci hp hA (va_runV (As := [.int p1, .int p2]) (rest := []) ⟨hx, hb, hml, hown, hts⟩ (c_X9_has l dC dI h0 ar ca p1 p2 _ _ _ hc_13 _) (cwV 2 hts gq_X9_differs_X9_has_246 rfl rfl rfl (by decide +kernel) ⟨Nat.le_of_ble_eq_true rfl, Nat.le_of_ble_eq_true rfl⟩) ⟨Pr.blind _, va_recv hK hp.1 (ci := 11) (q0 := 0) rfl rfl, r_pre hp hK hN hZ hA⟩ rfl rfl hl.1 rfl (lv_room (Nat.le_of_ble_eq_true rfl)) dX9_differs_3 ⟨Nat.le_of_ble_eq_true rfl, Nat.le_of_ble_eq_true rfl⟩) (fun H locs hp => ?_)
  refine lv_if_eq (tgt := 20) hx hb dX9_differs_6 (by decide) (fun c_15 => ?_) (fun c_15 => ?_)
  · have hf := pif_t c_15 hf
    refine lv_iconst (v := 0) hx hb dX9_differs_20 (by decide) ?_
    obtain ⟨e1, e2⟩ := pr_some hf
    exact W.zret (v := 0) hx hb hr rfl (fun t ht hW => ⟨⟨0, (), rfl, e1, Rp.end e2 hp hK ht hW⟩, hp.2.2.F ht⟩) hp.2.2.2.2 dX9_differs_21
  · have hf := pif_f c_15 hf
    refine lv_aload_n hx hb dX9_differs_9 rfl (lv_at hl 0 rfl) ?_
    refine lv_iload_n hx hb dX9_differs_10 rfl (lv_at hl 1 rfl) ?_
    refine lv_iload_n hx hb dX9_differs_11 rfl (lv_at hl 3 rfl) ?_
    obtain ⟨r_18, st_16, hc_17, hf⟩ := bnd_some hf
    refine r_ci hp hA (va_runV (As := [.int p0, .int p2]) (rest := []) ⟨hx, hb, hml, hown, hts⟩ (c_X9_sortOf l dC dI h0 ar ca p0 p2 _ _ _ hc_17 _) (cwV 2 hts gq_X9_differs_X9_sortOf_346 rfl rfl rfl (by decide +kernel) ⟨Nat.le_of_ble_eq_true rfl, Nat.le_of_ble_eq_true rfl⟩) ⟨Pr.blind _, va_recv hK hp.1 (ci := 11) (q0 := 0) rfl rfl, r_pre hp hK hN hZ hA⟩ rfl rfl hl.1 rfl (lv_room (Nat.le_of_ble_eq_true rfl)) dX9_differs_12 ⟨Nat.le_of_ble_eq_true rfl, Nat.le_of_ble_eq_true rfl⟩) (fun H locs hp => ?_)
    refine lv_bipush (v := 6) hx hb dX9_differs_15 (by decide) ?_
    refine lv_icmp_ne (tgt := 22) hx hb dX9_differs_17 (by decide) (fun c_19 => ?_) (fun c_19 => ?_)
    · have hf := pif_f c_19 hf
      refine lv_bipush (v := 31) hx hb dX9_differs_22 (by decide) ?_
      refine lv_iload_n hx hb dX9_differs_24 rfl (lv_at hl 1 rfl) ?_
      refine lv_imul hx hb dX9_differs_25 ?_
      refine lv_iload_n hx hb dX9_differs_26 rfl (lv_at hl 3 rfl) ?_
      refine lv_iadd hx hb dX9_differs_27 ?_
      obtain ⟨v_20, ev_20, hf⟩ := nam_some hf
      refine W_toi (y := v_20) ev_20.symm ?_
      refine lv_istore (lv' := [(4, .int v_20), (0, .ref h0), (1, .int p0), (2, .int p1), (3, .int p2)]) hx hb dX9_differs_28 hl (by decide) rfl (fun ls hl => ?_)
      refine lv_bipush (v := 31) hx hb dX9_differs_30 (by decide) ?_
      refine lv_iload_n hx hb dX9_differs_32 rfl (lv_at hl 3 rfl) ?_
      refine lv_imul hx hb dX9_differs_33 ?_
      refine lv_iload_n hx hb dX9_differs_34 rfl (lv_at hl 4 rfl) ?_
      refine lv_iadd hx hb dX9_differs_35 ?_
      obtain ⟨v_21, ev_21, hf⟩ := nam_some hf
      refine W_toi (y := v_21) ev_21.symm ?_
      refine lv_istore (lv' := [(5, .int v_21), (4, .int v_20), (0, .ref h0), (1, .int p0), (2, .int p1), (3, .int p2)]) hx hb dX9_differs_36 hl (by decide) rfl (fun ls hl => ?_)
      refine lv_aload_n hx hb dX9_differs_38 rfl (lv_at hl 2 rfl) ?_
      refine r_ga hx hb hts iRX9 hown hK hp 6 (by decide) (by decide) (hts (.fieldLink RX9 30 "RecordBenchModel" "plain" "[J") (by decide +kernel)) dX9_differs_39 ?_
      refine lv_iload hx hb dX9_differs_42 (lv_at hl 1 rfl) ?_
      obtain ⟨g_22, hf⟩ := gd_some hf
      refine r_aj (n := 248) hx hb hK hp 6 6 rfl rfl rfl g_22 dX9_differs_44 ?_
      refine lv_aload_n hx hb dX9_differs_45 rfl (lv_at hl 2 rfl) ?_
      refine r_ga hx hb hts iRX9 hown hK hp 6 (by decide) (by decide) (hts (.fieldLink RX9 30 "RecordBenchModel" "plain" "[J") (by decide +kernel)) dX9_differs_46 ?_
      refine lv_iload hx hb dX9_differs_49 (lv_at hl 0 rfl) ?_
      obtain ⟨g_23, hf⟩ := gd_some hf
      refine r_aj (n := 248) hx hb hK hp 6 6 rfl rfl rfl g_23 dX9_differs_51 ?_
      refine W.lcmp hx hb dX9_differs_52 ?_
      refine lv_if_eq (tgt := 58) hx hb dX9_differs_53 (by decide) (fun c_24 => ?_) (fun c_24 => ?_)
      · have hf := pif_t c_24 hf
        refine lv_iconst (v := 0) hx hb dX9_differs_58 (by decide) ?_
        refine lv_istore (lv' := [(6, .int 0), (5, .int v_21), (4, .int v_20), (0, .ref h0), (1, .int p0), (2, .int p1), (3, .int p2)]) hx hb dX9_differs_59 hl (by decide) rfl (fun ls hl => ?_)
        refine lv_iconst (v := 0) hx hb dX9_differs_61 (by decide) ?_
        refine lv_istore (lv' := [(7, .int 0), (6, .int 0), (5, .int v_21), (4, .int v_20), (0, .ref h0), (1, .int p0), (2, .int p1), (3, .int p2)]) hx hb dX9_differs_62 hl (by decide) rfl (fun ls hl => ?_)
        exact J64 fuel (p0, p2, v_20, v_21, 0, 0, st_16) _ _ _ ⟨hf, hp, (lv_sub hl [4, 5, 7, 3, 2, 1, 0] rfl)⟩
      · have hf := pif_f c_24 hf
        refine lv_iconst (v := 1) hx hb dX9_differs_56 (by decide) ?_
        obtain ⟨e1, e2⟩ := pr_some hf
        exact W.zret (v := 1) hx hb hr rfl (fun t ht hW => ⟨⟨1, (), rfl, e1, Rp.end e2 hp hK ht hW⟩, hp.2.2.F ht⟩) hp.2.2.2.2 dX9_differs_57
    · have hf := pif_t c_19 hf
      refine lv_iconst (v := 0) hx hb dX9_differs_20 (by decide) ?_
      obtain ⟨e1, e2⟩ := pr_some hf
      exact W.zret (v := 0) hx hb hr rfl (fun t ht hW => ⟨⟨0, (), rfl, e1, Rp.end e2 hp hK ht hW⟩, hp.2.2.F ht⟩) hp.2.2.2.2 dX9_differs_21
noncomputable def x9_isMated_28  : Nat → Int32 → Int32 → Int32 → Int32 → RS → Option (Int32 × RS)
  | 0 => fun _ _ _ _ _ => none
  | n + 1 => fun l1 l2 l3 l4 st => pif (l3 ≤ l4) (some ((0 : Int32), st)) (bnd (x9_has l2 l4 st) (fun r_4 st_2 => pif (r_4 = 0) (nam (l4 + 1) (fun v_6 => (x9_isMated_28 n) l1 l2 l3 v_6 st_2)) (gd (vp_in ((31 * l2) + l4) 248) (gd (vp_in ((31 * l2) + l3) 248) (pif ((gF st_2 2 ((31 * l2) + l4).toNatClampNeg) = (gF st_2 2 ((31 * l2) + l3).toNatClampNeg)) (bnd (x9_has l1 l4 st_2) (fun r_13 st_11 => pif (r_13 = 0) (nam (l4 + 1) (fun v_21 => (x9_isMated_28 n) l1 l2 l3 v_21 st_11)) (gd (vp_in ((31 * l1) + l4) 248) (pif ((gF st_11 2 ((31 * l1) + l4).toNatClampNeg) = 0) (some ((1 : Int32), st_11)) (gd (vp_in ((31 * l1) + l4) 248) (gd (vp_in ((31 * l1) + l3) 248) (pif ((gF st_11 2 ((31 * l1) + l4).toNatClampNeg) = (gF st_11 2 ((31 * l1) + l3).toNatClampNeg)) (nam (l4 + 1) (fun v_20 => (x9_isMated_28 n) l1 l2 l3 v_20 st_11)) (some ((1 : Int32), st_11))))))))) (nam (l4 + 1) (fun v_10 => (x9_isMated_28 n) l1 l2 l3 v_10 st_2)))))))
theorem x9_isMated_28_z  (l1 : Int32) (l2 : Int32) (l3 : Int32) (l4 : Int32) (st : RS) : x9_isMated_28  0 l1 l2 l3 l4 st = none := rfl
theorem x9_isMated_28_s  (n : Nat) (l1 : Int32) (l2 : Int32) (l3 : Int32) (l4 : Int32) (st : RS) : x9_isMated_28  (n + 1) l1 l2 l3 l4 st = pif (l3 ≤ l4) (some ((0 : Int32), st)) (bnd (x9_has l2 l4 st) (fun r_4 st_2 => pif (r_4 = 0) (nam (l4 + 1) (fun v_6 => (x9_isMated_28 n) l1 l2 l3 v_6 st_2)) (gd (vp_in ((31 * l2) + l4) 248) (gd (vp_in ((31 * l2) + l3) 248) (pif ((gF st_2 2 ((31 * l2) + l4).toNatClampNeg) = (gF st_2 2 ((31 * l2) + l3).toNatClampNeg)) (bnd (x9_has l1 l4 st_2) (fun r_13 st_11 => pif (r_13 = 0) (nam (l4 + 1) (fun v_21 => (x9_isMated_28 n) l1 l2 l3 v_21 st_11)) (gd (vp_in ((31 * l1) + l4) 248) (pif ((gF st_11 2 ((31 * l1) + l4).toNatClampNeg) = 0) (some ((1 : Int32), st_11)) (gd (vp_in ((31 * l1) + l4) 248) (gd (vp_in ((31 * l1) + l3) 248) (pif ((gF st_11 2 ((31 * l1) + l4).toNatClampNeg) = (gF st_11 2 ((31 * l1) + l3).toNatClampNeg)) (nam (l4 + 1) (fun v_20 => (x9_isMated_28 n) l1 l2 l3 v_20 st_11)) (some ((1 : Int32), st_11))))))))) (nam (l4 + 1) (fun v_10 => (x9_isMated_28 n) l1 l2 l3 v_10 st_2))))))) := rfl
noncomputable def x9_isMated (p0 : Int32) (p1 : Int32) (p2 : Int32) (st : RS) : Option (Int32 × RS) := bnd (x9_has p1 p2 st) (fun r_24 st_22 => pif (r_24 = 0) (some ((0 : Int32), st_22)) (gd (vp_in ((31 * p1) + p2) 248) (pif ((gF st_22 2 ((31 * p1) + p2).toNatClampNeg) = 0) (some ((0 : Int32), st_22)) (x9_isMated_28  fuel p0 p1 p2 1 st_22))))
def wq_X9_isMated : List Cond := .code yX9_isMated cX9_isMated 5 (some .boolean) :: (([.fieldLink RX9 17 "RecordBenchModel" "group" "[I", .methodLink RX9 246 yX9_has, .instanceMethod yX9_has, .selects RX9 yX9_has yX9_has, .initialized RX9, .code yX9_has cX9_has 3 (some .boolean), .fieldLink RX9 36 "RecordBenchModel" "isThere" "[Z", .fieldLink RX9 13 "RecordBenchModel" "kind" "[I"] : List Cond) ++ wsX90)
theorem gs_wq_X9_isMated_wsX90 : GoodIn wq_X9_isMated wsX90 := fun w h => ⟨List.mem_cons_of_mem _ (List.mem_append_right _ h), (gt_wsX90 w h).2⟩
set_option maxRecDepth 20000 in
theorem gq_X9_isMated_X9_has_246 : GoodIn wq_X9_isMated (wsV RX9 246 RX9 yX9_has wq_X9_has) := goodIn_app (goodIn_r _ [2, 3, 4, 5] rfl rfl) (goodIn_ca (goodIn_r _ [6, 7, 8] rfl rfl) gs_wq_X9_isMated_wsX90)
set_option maxHeartbeats 4000000 in
set_option maxRecDepth 100000 in
theorem c_X9_isMated (l : Launch) (dC : Nat → ClassId) (dI : Nat → Nat → Nat) (h0 : Nat) (ar : Nat → Nat) (ca : Nat → ClassId) (p0 : Int32) (p1 : Int32) (p2 : Int32) (st st' : RS) (r : Int32) (hf : x9_isMated p0 p1 p2 st = some (r, st')) (sz : Nat) : Met l yX9_isMated wq_X9_isMated ({ frames := 1, cells := 0, slots := 0, locals := 26 }) (va_Pc [.ref h0, .int p0, .int p1, .int p2] (Pr (dC, dI) (rT ca) [] (RW h0 ar ca st) sz)) (va_Qi (fun r' (_ : Unit) => r' = r) (Bq (dC, dI) (fun _ => RW h0 ar ca st') (fun _ => []) (va_A (RW h0 ar ca st) sz)) (va_A (RW h0 ar ca st) sz)) 0 0 (va_A (RW h0 ar ca st) sz) := by
  refine Met.ofW (cc := cX9_isMated) (maxL := 5) (ret := (some .boolean)) (by decide) rfl ?_
  intro p e s m args below meth c s₁ B hml hv
  obtain ⟨rfl, hsz, hP, hK, hD0, hN, hZ, hR⟩ := hv
  have hx := B.exec
  have hb := B.bytes
  have hr := B.returns
  have hts := atoms_spec (ws := wq_X9_isMated) B.pre
  have hown : s.vm.findClass RX9 = some m.cls := findClass_of_methodNamed B.named
  have iRX9 : ∀ w ∈ u_ws RX9 TX9 60, w ∈ wq_X9_isMated := fun w h => List.mem_cons_of_mem _ (List.mem_append_right _ h)
  subst hsz
  have hp : Rp (dC, dI) h0 ar ca (va_A (RW h0 ar ca st) s.heap.size) s.heap st s.heap [] := ⟨hP, hD0.self, va_S.rf⟩
  generalize hAe : va_A (RW h0 ar ca st) s.heap.size = A at hp hZ ⊢
  have hA : ∀ q : Nat, s.heap.size ≤ q → A q := fun q h => by rw [← hAe]; exact Or.inr h
  have hl := lv_entry ([.ref h0, .int p0, .int p1, .int p2]) (n := 5) (Nat.le_of_ble_eq_true rfl)
  rw [lg_entry_eq]
  generalize (lg_sl ([.ref h0, .int p0, .int p1, .int p2]) ++ List.replicate (5 - (lg_sl ([.ref h0, .int p0, .int p1, .int p2])).length) Slot.unset).toArray = ls at hl ⊢
  have hl : lv_has ls 5 [(0, .ref h0), (1, .int p0), (2, .int p1), (3, .int p2)] := hl
  refine W_lp (fun n28 (u : Int32 × Int32 × Int32 × Int32 × RS) H locs ls => match u with | (l1, l2, l3, l4, st) => x9_isMated_28 n28 l1 l2 l3 l4 st = some (r, st') ∧ Rp (dC, dI) h0 ar ca A s.heap st H locs ∧ lv_has ls 5 [(0, .ref h0), (1, .int l1), (2, .int l2), (3, .int l3), (4, .int l4)]) (fun (u : Int32 × Int32 × Int32 × Int32 × RS) ls => match u with | (l1, l2, l3, l4, st) => F0 m 28 ls []) ?_ ?_ (fun J28 => ?_)
  · intro u H locs ls hu
    obtain ⟨l1, l2, l3, l4, st⟩ := u
    obtain ⟨hf, hp, hl⟩ := hu
    rw [x9_isMated_28_z] at hf
    cases hf
  · intro n28 ih28 u H locs ls hu
    obtain ⟨l1, l2, l3, l4, st⟩ := u
    obtain ⟨hf, hp, hl⟩ := hu
    show W p l e _ s m _ below meth c _ _ _ _ _ (F0 m 28 ls [])
    rw [x9_isMated_28_s] at hf
    refine lv_iload hx hb dX9_isMated_28 (lv_at hl 4 rfl) ?_
    refine lv_iload_n hx hb dX9_isMated_30 rfl (lv_at hl 3 rfl) ?_
    refine lv_icmp_ge (tgt := 132) hx hb dX9_isMated_31 (by decide) (fun c_1 => ?_) (fun c_1 => ?_)
    · have hf := pif_t c_1 hf
      refine lv_iconst (v := 0) hx hb dX9_isMated_132 (by decide) ?_
      obtain ⟨e1, e2⟩ := pr_some hf
      exact W.zret (v := 0) hx hb hr rfl (fun t ht hW => ⟨⟨0, (), rfl, e1, Rp.end e2 hp hK ht hW⟩, hp.2.2.F ht⟩) hp.2.2.2.2 dX9_isMated_133
    · have hf := pif_f c_1 hf
      refine lv_aload_n hx hb dX9_isMated_34 rfl (lv_at hl 0 rfl) ?_
      refine lv_iload_n hx hb dX9_isMated_35 rfl (lv_at hl 2 rfl) ?_
      refine lv_iload hx hb dX9_isMated_36 (lv_at hl 4 rfl) ?_
      obtain ⟨r_4, st_2, hc_3, hf⟩ := bnd_some hf
      refine r_ci hp hA (va_runV (As := [.int l2, .int l4]) (rest := []) ⟨hx, hb, hml, hown, hts⟩ (c_X9_has l dC dI h0 ar ca l2 l4 _ _ _ hc_3 _) (cwV 2 hts gq_X9_isMated_X9_has_246 rfl rfl rfl (by decide +kernel) ⟨Nat.le_of_ble_eq_true rfl, Nat.le_of_ble_eq_true rfl⟩) ⟨Pr.blind _, va_recv hK hp.1 (ci := 11) (q0 := 0) rfl rfl, r_pre hp hK hN hZ hA⟩ rfl rfl hl.1 rfl (lv_room (Nat.le_of_ble_eq_true rfl)) dX9_isMated_38 ⟨Nat.le_of_ble_eq_true rfl, Nat.le_of_ble_eq_true rfl⟩) (fun H locs hp => ?_)
      refine lv_if_eq (tgt := 126) hx hb dX9_isMated_41 (by decide) (fun c_5 => ?_) (fun c_5 => ?_)
      · have hf := pif_t c_5 hf
        obtain ⟨v_6, ev_6, hf⟩ := nam_some hf
        refine lv_iinc (v := v_6) (lv' := [(4, .int v_6), (0, .ref h0), (1, .int l1), (2, .int l2), (3, .int l3)]) hx hb dX9_isMated_126 hl (k := 4) rfl ev_6.symm (by decide) rfl (fun ls hl => ?_)
        refine lv_goto (tgt := 28) hx hb dX9_isMated_129 (by decide) ?_
        exact ih28 (l1, l2, l3, v_6, st_2) _ _ _ ⟨hf, hp, (lv_sub hl [1, 2, 3, 4, 0] rfl)⟩
      · have hf := pif_f c_5 hf
        refine lv_aload_n hx hb dX9_isMated_44 rfl (lv_at hl 0 rfl) ?_
        refine r_ga hx hb hts iRX9 hown hK hp 2 (by decide) (by decide) (hts (.fieldLink RX9 17 "RecordBenchModel" "group" "[I") (by decide +kernel)) dX9_isMated_45 ?_
        refine lv_bipush (v := 31) hx hb dX9_isMated_48 (by decide) ?_
        refine lv_iload_n hx hb dX9_isMated_50 rfl (lv_at hl 2 rfl) ?_
        refine lv_imul hx hb dX9_isMated_51 ?_
        refine lv_iload hx hb dX9_isMated_52 (lv_at hl 4 rfl) ?_
        refine lv_iadd hx hb dX9_isMated_54 ?_
        obtain ⟨g_7, hf⟩ := gd_some hf
        refine r_ai (n := 248) hx hb hK hp 2 2 rfl rfl rfl g_7 dX9_isMated_55 ?_
        refine lv_aload_n hx hb dX9_isMated_56 rfl (lv_at hl 0 rfl) ?_
        refine r_ga hx hb hts iRX9 hown hK hp 2 (by decide) (by decide) (hts (.fieldLink RX9 17 "RecordBenchModel" "group" "[I") (by decide +kernel)) dX9_isMated_57 ?_
        refine lv_bipush (v := 31) hx hb dX9_isMated_60 (by decide) ?_
        refine lv_iload_n hx hb dX9_isMated_62 rfl (lv_at hl 2 rfl) ?_
        refine lv_imul hx hb dX9_isMated_63 ?_
        refine lv_iload_n hx hb dX9_isMated_64 rfl (lv_at hl 3 rfl) ?_
        refine lv_iadd hx hb dX9_isMated_65 ?_
        obtain ⟨g_8, hf⟩ := gd_some hf
        refine r_ai (n := 248) hx hb hK hp 2 2 rfl rfl rfl g_8 dX9_isMated_66 ?_
        refine lv_icmp_ne (tgt := 126) hx hb dX9_isMated_67 (by decide) (fun c_9 => ?_) (fun c_9 => ?_)
        · have hf := pif_f c_9 hf
          obtain ⟨v_10, ev_10, hf⟩ := nam_some hf
          refine lv_iinc (v := v_10) (lv' := [(4, .int v_10), (0, .ref h0), (1, .int l1), (2, .int l2), (3, .int l3)]) hx hb dX9_isMated_126 hl (k := 4) rfl ev_10.symm (by decide) rfl (fun ls hl => ?_)
          refine lv_goto (tgt := 28) hx hb dX9_isMated_129 (by decide) ?_
          exact ih28 (l1, l2, l3, v_10, st_2) _ _ _ ⟨hf, hp, (lv_sub hl [1, 2, 3, 4, 0] rfl)⟩
        · have hf := pif_t c_9 hf
          refine lv_aload_n hx hb dX9_isMated_70 rfl (lv_at hl 0 rfl) ?_
          refine lv_iload_n hx hb dX9_isMated_71 rfl (lv_at hl 1 rfl) ?_
          refine lv_iload hx hb dX9_isMated_72 (lv_at hl 4 rfl) ?_
          obtain ⟨r_13, st_11, hc_12, hf⟩ := bnd_some hf
          refine r_ci hp hA (va_runV (As := [.int l1, .int l4]) (rest := []) ⟨hx, hb, hml, hown, hts⟩ (c_X9_has l dC dI h0 ar ca l1 l4 _ _ _ hc_12 _) (cwV 2 hts gq_X9_isMated_X9_has_246 rfl rfl rfl (by decide +kernel) ⟨Nat.le_of_ble_eq_true rfl, Nat.le_of_ble_eq_true rfl⟩) ⟨Pr.blind _, va_recv hK hp.1 (ci := 11) (q0 := 0) rfl rfl, r_pre hp hK hN hZ hA⟩ rfl rfl hl.1 rfl (lv_room (Nat.le_of_ble_eq_true rfl)) dX9_isMated_74 ⟨Nat.le_of_ble_eq_true rfl, Nat.le_of_ble_eq_true rfl⟩) (fun H locs hp => ?_)
          refine lv_if_ne (tgt := 83) hx hb dX9_isMated_77 (by decide) (fun c_14 => ?_) (fun c_14 => ?_)
          · have hf := pif_f c_14 hf
            refine lv_aload_n hx hb dX9_isMated_83 rfl (lv_at hl 0 rfl) ?_
            refine r_ga hx hb hts iRX9 hown hK hp 2 (by decide) (by decide) (hts (.fieldLink RX9 17 "RecordBenchModel" "group" "[I") (by decide +kernel)) dX9_isMated_84 ?_
            refine lv_bipush (v := 31) hx hb dX9_isMated_87 (by decide) ?_
            refine lv_iload_n hx hb dX9_isMated_89 rfl (lv_at hl 1 rfl) ?_
            refine lv_imul hx hb dX9_isMated_90 ?_
            refine lv_iload hx hb dX9_isMated_91 (lv_at hl 4 rfl) ?_
            refine lv_iadd hx hb dX9_isMated_93 ?_
            obtain ⟨g_15, hf⟩ := gd_some hf
            refine r_ai (n := 248) hx hb hK hp 2 2 rfl rfl rfl g_15 dX9_isMated_94 ?_
            refine lv_if_eq (tgt := 124) hx hb dX9_isMated_95 (by decide) (fun c_16 => ?_) (fun c_16 => ?_)
            · have hf := pif_t c_16 hf
              refine lv_iconst (v := 1) hx hb dX9_isMated_124 (by decide) ?_
              obtain ⟨e1, e2⟩ := pr_some hf
              exact W.zret (v := 1) hx hb hr rfl (fun t ht hW => ⟨⟨1, (), rfl, e1, Rp.end e2 hp hK ht hW⟩, hp.2.2.F ht⟩) hp.2.2.2.2 dX9_isMated_125
            · have hf := pif_f c_16 hf
              refine lv_aload_n hx hb dX9_isMated_98 rfl (lv_at hl 0 rfl) ?_
              refine r_ga hx hb hts iRX9 hown hK hp 2 (by decide) (by decide) (hts (.fieldLink RX9 17 "RecordBenchModel" "group" "[I") (by decide +kernel)) dX9_isMated_99 ?_
              refine lv_bipush (v := 31) hx hb dX9_isMated_102 (by decide) ?_
              refine lv_iload_n hx hb dX9_isMated_104 rfl (lv_at hl 1 rfl) ?_
              refine lv_imul hx hb dX9_isMated_105 ?_
              refine lv_iload hx hb dX9_isMated_106 (lv_at hl 4 rfl) ?_
              refine lv_iadd hx hb dX9_isMated_108 ?_
              obtain ⟨g_17, hf⟩ := gd_some hf
              refine r_ai (n := 248) hx hb hK hp 2 2 rfl rfl rfl g_17 dX9_isMated_109 ?_
              refine lv_aload_n hx hb dX9_isMated_110 rfl (lv_at hl 0 rfl) ?_
              refine r_ga hx hb hts iRX9 hown hK hp 2 (by decide) (by decide) (hts (.fieldLink RX9 17 "RecordBenchModel" "group" "[I") (by decide +kernel)) dX9_isMated_111 ?_
              refine lv_bipush (v := 31) hx hb dX9_isMated_114 (by decide) ?_
              refine lv_iload_n hx hb dX9_isMated_116 rfl (lv_at hl 1 rfl) ?_
              refine lv_imul hx hb dX9_isMated_117 ?_
              refine lv_iload_n hx hb dX9_isMated_118 rfl (lv_at hl 3 rfl) ?_
              refine lv_iadd hx hb dX9_isMated_119 ?_
              obtain ⟨g_18, hf⟩ := gd_some hf
              refine r_ai (n := 248) hx hb hK hp 2 2 rfl rfl rfl g_18 dX9_isMated_120 ?_
              refine lv_icmp_eq (tgt := 126) hx hb dX9_isMated_121 (by decide) (fun c_19 => ?_) (fun c_19 => ?_)
              · have hf := pif_t c_19 hf
                obtain ⟨v_20, ev_20, hf⟩ := nam_some hf
                refine lv_iinc (v := v_20) (lv' := [(4, .int v_20), (0, .ref h0), (1, .int l1), (2, .int l2), (3, .int l3)]) hx hb dX9_isMated_126 hl (k := 4) rfl ev_20.symm (by decide) rfl (fun ls hl => ?_)
                refine lv_goto (tgt := 28) hx hb dX9_isMated_129 (by decide) ?_
                exact ih28 (l1, l2, l3, v_20, st_11) _ _ _ ⟨hf, hp, (lv_sub hl [1, 2, 3, 4, 0] rfl)⟩
              · have hf := pif_f c_19 hf
                refine lv_iconst (v := 1) hx hb dX9_isMated_124 (by decide) ?_
                obtain ⟨e1, e2⟩ := pr_some hf
                exact W.zret (v := 1) hx hb hr rfl (fun t ht hW => ⟨⟨1, (), rfl, e1, Rp.end e2 hp hK ht hW⟩, hp.2.2.F ht⟩) hp.2.2.2.2 dX9_isMated_125
          · have hf := pif_t c_14 hf
            refine lv_goto (tgt := 126) hx hb dX9_isMated_80 (by decide) ?_
            obtain ⟨v_21, ev_21, hf⟩ := nam_some hf
            refine lv_iinc (v := v_21) (lv' := [(4, .int v_21), (0, .ref h0), (1, .int l1), (2, .int l2), (3, .int l3)]) hx hb dX9_isMated_126 hl (k := 4) rfl ev_21.symm (by decide) rfl (fun ls hl => ?_)
            refine lv_goto (tgt := 28) hx hb dX9_isMated_129 (by decide) ?_
            exact ih28 (l1, l2, l3, v_21, st_11) _ _ _ ⟨hf, hp, (lv_sub hl [1, 2, 3, 4, 0] rfl)⟩
  unfold x9_isMated at hf
  refine lv_aload_n hx hb dX9_isMated_0 rfl (lv_at hl 0 rfl) ?_
  refine lv_iload_n hx hb dX9_isMated_1 rfl (lv_at hl 2 rfl) ?_
  refine lv_iload_n hx hb dX9_isMated_2 rfl (lv_at hl 3 rfl) ?_
  obtain ⟨r_24, st_22, hc_23, hf⟩ := bnd_some hf
  refine r_ci hp hA (va_runV (As := [.int p1, .int p2]) (rest := []) ⟨hx, hb, hml, hown, hts⟩ (c_X9_has l dC dI h0 ar ca p1 p2 _ _ _ hc_23 _) (cwV 2 hts gq_X9_isMated_X9_has_246 rfl rfl rfl (by decide +kernel) ⟨Nat.le_of_ble_eq_true rfl, Nat.le_of_ble_eq_true rfl⟩) ⟨Pr.blind _, va_recv hK hp.1 (ci := 11) (q0 := 0) rfl rfl, r_pre hp hK hN hZ hA⟩ rfl rfl hl.1 rfl (lv_room (Nat.le_of_ble_eq_true rfl)) dX9_isMated_3 ⟨Nat.le_of_ble_eq_true rfl, Nat.le_of_ble_eq_true rfl⟩) (fun H locs hp => ?_)
  refine lv_if_eq (tgt := 23) hx hb dX9_isMated_6 (by decide) (fun c_25 => ?_) (fun c_25 => ?_)
  · have hf := pif_t c_25 hf
    refine lv_iconst (v := 0) hx hb dX9_isMated_23 (by decide) ?_
    obtain ⟨e1, e2⟩ := pr_some hf
    exact W.zret (v := 0) hx hb hr rfl (fun t ht hW => ⟨⟨0, (), rfl, e1, Rp.end e2 hp hK ht hW⟩, hp.2.2.F ht⟩) hp.2.2.2.2 dX9_isMated_24
  · have hf := pif_f c_25 hf
    refine lv_aload_n hx hb dX9_isMated_9 rfl (lv_at hl 0 rfl) ?_
    refine r_ga hx hb hts iRX9 hown hK hp 2 (by decide) (by decide) (hts (.fieldLink RX9 17 "RecordBenchModel" "group" "[I") (by decide +kernel)) dX9_isMated_10 ?_
    refine lv_bipush (v := 31) hx hb dX9_isMated_13 (by decide) ?_
    refine lv_iload_n hx hb dX9_isMated_15 rfl (lv_at hl 2 rfl) ?_
    refine lv_imul hx hb dX9_isMated_16 ?_
    refine lv_iload_n hx hb dX9_isMated_17 rfl (lv_at hl 3 rfl) ?_
    refine lv_iadd hx hb dX9_isMated_18 ?_
    obtain ⟨g_26, hf⟩ := gd_some hf
    refine r_ai (n := 248) hx hb hK hp 2 2 rfl rfl rfl g_26 dX9_isMated_19 ?_
    refine lv_if_ne (tgt := 25) hx hb dX9_isMated_20 (by decide) (fun c_27 => ?_) (fun c_27 => ?_)
    · have hf := pif_f c_27 hf
      refine lv_iconst (v := 1) hx hb dX9_isMated_25 (by decide) ?_
      refine lv_istore (lv' := [(4, .int 1), (0, .ref h0), (1, .int p0), (2, .int p1), (3, .int p2)]) hx hb dX9_isMated_26 hl (by decide) rfl (fun ls hl => ?_)
      exact J28 fuel (p0, p1, p2, 1, st_22) _ _ _ ⟨hf, hp, (lv_sub hl [1, 2, 3, 4, 0] rfl)⟩
    · have hf := pif_t c_27 hf
      refine lv_iconst (v := 0) hx hb dX9_isMated_23 (by decide) ?_
      obtain ⟨e1, e2⟩ := pr_some hf
      exact W.zret (v := 0) hx hb hr rfl (fun t ht hW => ⟨⟨0, (), rfl, e1, Rp.end e2 hp hK ht hW⟩, hp.2.2.F ht⟩) hp.2.2.2.2 dX9_isMated_24
noncomputable def x9_withinOf_87  (l5 : Int32) (l6 : Int32) (l7 : Int32) (l8 : Int32) (l9 : Int32) (l10 : Int32) (st : RS) : Option (Int32 × RS) := pif (l7 = 0) (pif (l6 = 0) (some ((0 : Int32), st)) (bnd (x9_place l8 l9 l9 1 st) (fun r_5 st_3 => gd (vp_in r_5 1024) (some (gF st_3 57 r_5.toNatClampNeg, st_3))))) (bnd (x9_place l8 l10 l10 l5 st) (fun r_9 st_7 => gd (vp_in r_9 1024) (some (gF st_7 57 r_9.toNatClampNeg, st_7))))
noncomputable def x9_withinOf (p0 : Int32) (p1 : Int32) (p2 : Int32) (p3 : Int32) (p4 : Int32) (st : RS) : Option (Int32 × RS) := bnd (x9_has p1 p3 st) (fun r_13 st_11 => bnd (x9_has p2 p3 st_11) (fun r_16 st_14 => gd (vp_in ((31 * p0) + p3) 248) (nam (gF st_14 3 ((31 * p0) + p3).toNatClampNeg) (fun v_18 => gd (vp_in ((31 * p1) + p3) 248) (nam (gF st_14 3 ((31 * p1) + p3).toNatClampNeg) (fun v_20 => gd (vp_in ((31 * p2) + p3) 248) (nam (gF st_14 3 ((31 * p2) + p3).toNatClampNeg) (fun v_22 => pif (r_13 = 0) (x9_withinOf_87  p4 r_13 r_16 v_18 v_20 v_22 st_14) (pif (r_16 = 0) (x9_withinOf_87  p4 r_13 r_16 v_18 v_20 v_22 st_14) (bnd (x9_place v_18 v_20 v_22 p4 st_14) (fun r_27 st_25 => gd (vp_in r_27 1024) (some (gF st_25 57 r_27.toNatClampNeg, st_25)))))))))))))
def wq_X9_withinOf : List Cond := .code yX9_withinOf cX9_withinOf 11 (some .int) :: (([.fieldLink RX9 20 "RecordBenchModel" "inner" "[I", .fieldLink RX9 126 "RecordBenchModel" "why" "[I", .methodLink RX9 350 yX9_place, .static yX9_place, .initialized RX9, .methodLink RX9 246 yX9_has, .instanceMethod yX9_has, .selects RX9 yX9_has yX9_has, .code yX9_place cX9_place 4 (some .int), .code yX9_has cX9_has 3 (some .boolean), .fieldLink RX9 36 "RecordBenchModel" "isThere" "[Z", .fieldLink RX9 13 "RecordBenchModel" "kind" "[I"] : List Cond) ++ wsX90)
set_option maxRecDepth 20000 in
theorem gq_X9_withinOf_X9_place_350 : GoodIn wq_X9_withinOf (wsS RX9 350 yX9_place wq_X9_place) := goodIn_app (goodIn_r _ [3, 4, 5] rfl rfl) (goodIn_r _ [9] rfl rfl)
theorem gs_wq_X9_withinOf_wsX90 : GoodIn wq_X9_withinOf wsX90 := fun w h => ⟨List.mem_cons_of_mem _ (List.mem_append_right _ h), (gt_wsX90 w h).2⟩
set_option maxRecDepth 20000 in
theorem gq_X9_withinOf_X9_has_246 : GoodIn wq_X9_withinOf (wsV RX9 246 RX9 yX9_has wq_X9_has) := goodIn_app (goodIn_r _ [6, 7, 8, 5] rfl rfl) (goodIn_ca (goodIn_r _ [10, 11, 12] rfl rfl) gs_wq_X9_withinOf_wsX90)
set_option maxHeartbeats 4000000 in
set_option maxRecDepth 100000 in
theorem c_X9_withinOf (l : Launch) (dC : Nat → ClassId) (dI : Nat → Nat → Nat) (h0 : Nat) (ar : Nat → Nat) (ca : Nat → ClassId) (p0 : Int32) (p1 : Int32) (p2 : Int32) (p3 : Int32) (p4 : Int32) (st st' : RS) (r : Int32) (hf : x9_withinOf p0 p1 p2 p3 p4 st = some (r, st')) (sz : Nat) : Met l yX9_withinOf wq_X9_withinOf ({ frames := 1, cells := 0, slots := 0, locals := 27 }) (va_Pc [.ref h0, .int p0, .int p1, .int p2, .int p3, .int p4] (Pr (dC, dI) (rT ca) [] (RW h0 ar ca st) sz)) (va_Qi (fun r' (_ : Unit) => r' = r) (Bq (dC, dI) (fun _ => RW h0 ar ca st') (fun _ => []) (va_A (RW h0 ar ca st) sz)) (va_A (RW h0 ar ca st) sz)) 0 0 (va_A (RW h0 ar ca st) sz) := by
  refine Met.ofW (cc := cX9_withinOf) (maxL := 11) (ret := (some .int)) (by decide) rfl ?_
  intro p e s m args below meth c s₁ B hml hv
  obtain ⟨rfl, hsz, hP, hK, hD0, hN, hZ, hR⟩ := hv
  have hx := B.exec
  have hb := B.bytes
  have hr := B.returns
  have hts := atoms_spec (ws := wq_X9_withinOf) B.pre
  have hown : s.vm.findClass RX9 = some m.cls := findClass_of_methodNamed B.named
  have iRX9 : ∀ w ∈ u_ws RX9 TX9 60, w ∈ wq_X9_withinOf := fun w h => List.mem_cons_of_mem _ (List.mem_append_right _ h)
  subst hsz
  have hp : Rp (dC, dI) h0 ar ca (va_A (RW h0 ar ca st) s.heap.size) s.heap st s.heap [] := ⟨hP, hD0.self, va_S.rf⟩
  generalize hAe : va_A (RW h0 ar ca st) s.heap.size = A at hp hZ ⊢
  have hA : ∀ q : Nat, s.heap.size ≤ q → A q := fun q h => by rw [← hAe]; exact Or.inr h
  have hl := lv_entry ([.ref h0, .int p0, .int p1, .int p2, .int p3, .int p4]) (n := 11) (Nat.le_of_ble_eq_true rfl)
  rw [lg_entry_eq]
  generalize (lg_sl ([.ref h0, .int p0, .int p1, .int p2, .int p3, .int p4]) ++ List.replicate (11 - (lg_sl ([.ref h0, .int p0, .int p1, .int p2, .int p3, .int p4])).length) Slot.unset).toArray = ls at hl ⊢
  have hl : lv_has ls 11 [(0, .ref h0), (1, .int p0), (2, .int p1), (3, .int p2), (4, .int p3), (5, .int p4)] := hl
  refine W_blk (fun (u : Int32 × Int32 × Int32 × Int32 × Int32 × Int32 × RS) H locs ls => match u with | (l5, l6, l7, l8, l9, l10, st) => x9_withinOf_87 l5 l6 l7 l8 l9 l10 st = some (r, st') ∧ Rp (dC, dI) h0 ar ca A s.heap st H locs ∧ lv_has ls 11 [(0, .ref h0), (5, .int l5), (6, .int l6), (7, .int l7), (8, .int l8), (9, .int l9), (10, .int l10)]) (fun (u : Int32 × Int32 × Int32 × Int32 × Int32 × Int32 × RS) ls => match u with | (l5, l6, l7, l8, l9, l10, st) => F0 m 87 ls []) ?_ (fun J87 => ?_)
  · intro u H locs ls hu
    obtain ⟨l5, l6, l7, l8, l9, l10, st⟩ := u
    obtain ⟨hf, hp, hl⟩ := hu
    show W p l e _ s m _ below meth c _ _ _ _ _ (F0 m 87 ls [])
    unfold x9_withinOf_87 at hf
    refine lv_iload hx hb dX9_withinOf_87 (lv_at hl 3 rfl) ?_
    refine lv_if_eq (tgt := 109) hx hb dX9_withinOf_89 (by decide) (fun c_1 => ?_) (fun c_1 => ?_)
    · have hf := pif_t c_1 hf
      refine lv_iload hx hb dX9_withinOf_109 (lv_at hl 2 rfl) ?_
      refine lv_if_eq (tgt := 132) hx hb dX9_withinOf_111 (by decide) (fun c_2 => ?_) (fun c_2 => ?_)
      · have hf := pif_t c_2 hf
        refine lv_iconst (v := 0) hx hb dX9_withinOf_132 (by decide) ?_
        obtain ⟨e1, e2⟩ := pr_some hf
        exact W.iret (v := 0) hx hb hr (fun t ht hW => ⟨⟨0, (), rfl, e1, Rp.end e2 hp hK ht hW⟩, hp.2.2.F ht⟩) hp.2.2.2.2 dX9_withinOf_133
      · have hf := pif_f c_2 hf
        refine lv_aload_n hx hb dX9_withinOf_114 rfl (lv_at hl 0 rfl) ?_
        refine r_ga hx hb hts iRX9 hown hK hp 57 (by decide) (by decide) (hts (.fieldLink RX9 126 "RecordBenchModel" "why" "[I") (by decide +kernel)) dX9_withinOf_115 ?_
        refine lv_iload hx hb dX9_withinOf_118 (lv_at hl 4 rfl) ?_
        refine lv_iload hx hb dX9_withinOf_120 (lv_at hl 5 rfl) ?_
        refine lv_iload hx hb dX9_withinOf_122 (lv_at hl 5 rfl) ?_
        refine lv_iconst (v := 1) hx hb dX9_withinOf_124 (by decide) ?_
        obtain ⟨r_5, st_3, hc_4, hf⟩ := bnd_some hf
        refine r_ci hp hA (va_runS (As := [.int l8, .int l9, .int l9, .int 1]) (rest := [.ref (ar 57)]) ⟨hx, hb, hml, hown, hts⟩ (c_X9_place l dC dI h0 ar ca l8 l9 l9 1 _ _ _ hc_4 _) (cwS 4 hts gq_X9_withinOf_X9_place_350 rfl rfl rfl (by decide +kernel) ⟨Nat.le_of_ble_eq_true rfl, Nat.le_of_ble_eq_true rfl⟩) ⟨Pr.blind _, r_pre hp hK hN hZ hA⟩ rfl rfl hl.1 rfl (lv_room (Nat.le_of_ble_eq_true rfl)) dX9_withinOf_125 ⟨Nat.le_of_ble_eq_true rfl, Nat.le_of_ble_eq_true rfl⟩) (fun H locs hp => ?_)
        obtain ⟨g_6, hf⟩ := gd_some hf
        refine r_ai (n := 1024) hx hb hK hp 27 57 rfl rfl rfl g_6 dX9_withinOf_128 ?_
        refine lv_goto (tgt := 133) hx hb dX9_withinOf_129 (by decide) ?_
        obtain ⟨e1, e2⟩ := pr_some hf
        exact W.iret (v := gF st_3 57 r_5.toNatClampNeg) hx hb hr (fun t ht hW => ⟨⟨gF st_3 57 r_5.toNatClampNeg, (), rfl, e1, Rp.end e2 hp hK ht hW⟩, hp.2.2.F ht⟩) hp.2.2.2.2 dX9_withinOf_133
    · have hf := pif_f c_1 hf
      refine lv_aload_n hx hb dX9_withinOf_92 rfl (lv_at hl 0 rfl) ?_
      refine r_ga hx hb hts iRX9 hown hK hp 57 (by decide) (by decide) (hts (.fieldLink RX9 126 "RecordBenchModel" "why" "[I") (by decide +kernel)) dX9_withinOf_93 ?_
      refine lv_iload hx hb dX9_withinOf_96 (lv_at hl 4 rfl) ?_
      refine lv_iload hx hb dX9_withinOf_98 (lv_at hl 6 rfl) ?_
      refine lv_iload hx hb dX9_withinOf_100 (lv_at hl 6 rfl) ?_
      refine lv_iload hx hb dX9_withinOf_102 (lv_at hl 1 rfl) ?_
      obtain ⟨r_9, st_7, hc_8, hf⟩ := bnd_some hf
      refine r_ci hp hA (va_runS (As := [.int l8, .int l10, .int l10, .int l5]) (rest := [.ref (ar 57)]) ⟨hx, hb, hml, hown, hts⟩ (c_X9_place l dC dI h0 ar ca l8 l10 l10 l5 _ _ _ hc_8 _) (cwS 4 hts gq_X9_withinOf_X9_place_350 rfl rfl rfl (by decide +kernel) ⟨Nat.le_of_ble_eq_true rfl, Nat.le_of_ble_eq_true rfl⟩) ⟨Pr.blind _, r_pre hp hK hN hZ hA⟩ rfl rfl hl.1 rfl (lv_room (Nat.le_of_ble_eq_true rfl)) dX9_withinOf_104 ⟨Nat.le_of_ble_eq_true rfl, Nat.le_of_ble_eq_true rfl⟩) (fun H locs hp => ?_)
      obtain ⟨g_10, hf⟩ := gd_some hf
      refine r_ai (n := 1024) hx hb hK hp 27 57 rfl rfl rfl g_10 dX9_withinOf_107 ?_
      obtain ⟨e1, e2⟩ := pr_some hf
      exact W.iret (v := gF st_7 57 r_9.toNatClampNeg) hx hb hr (fun t ht hW => ⟨⟨gF st_7 57 r_9.toNatClampNeg, (), rfl, e1, Rp.end e2 hp hK ht hW⟩, hp.2.2.F ht⟩) hp.2.2.2.2 dX9_withinOf_108
  unfold x9_withinOf at hf
  refine lv_aload_n hx hb dX9_withinOf_0 rfl (lv_at hl 0 rfl) ?_
  refine lv_iload_n hx hb dX9_withinOf_1 rfl (lv_at hl 2 rfl) ?_
  refine lv_iload hx hb dX9_withinOf_2 (lv_at hl 4 rfl) ?_
  obtain ⟨r_13, st_11, hc_12, hf⟩ := bnd_some hf
  refine r_ci hp hA (va_runV (As := [.int p1, .int p3]) (rest := []) ⟨hx, hb, hml, hown, hts⟩ (c_X9_has l dC dI h0 ar ca p1 p3 _ _ _ hc_12 _) (cwV 2 hts gq_X9_withinOf_X9_has_246 rfl rfl rfl (by decide +kernel) ⟨Nat.le_of_ble_eq_true rfl, Nat.le_of_ble_eq_true rfl⟩) ⟨Pr.blind _, va_recv hK hp.1 (ci := 11) (q0 := 0) rfl rfl, r_pre hp hK hN hZ hA⟩ rfl rfl hl.1 rfl (lv_room (Nat.le_of_ble_eq_true rfl)) dX9_withinOf_4 ⟨Nat.le_of_ble_eq_true rfl, Nat.le_of_ble_eq_true rfl⟩) (fun H locs hp => ?_)
  refine lv_istore (lv' := [(6, .int r_13), (0, .ref h0), (1, .int p0), (2, .int p1), (3, .int p2), (4, .int p3), (5, .int p4)]) hx hb dX9_withinOf_7 hl (by decide) rfl (fun ls hl => ?_)
  refine lv_aload_n hx hb dX9_withinOf_9 rfl (lv_at hl 1 rfl) ?_
  refine lv_iload_n hx hb dX9_withinOf_10 rfl (lv_at hl 4 rfl) ?_
  refine lv_iload hx hb dX9_withinOf_11 (lv_at hl 5 rfl) ?_
  obtain ⟨r_16, st_14, hc_15, hf⟩ := bnd_some hf
  refine r_ci hp hA (va_runV (As := [.int p2, .int p3]) (rest := []) ⟨hx, hb, hml, hown, hts⟩ (c_X9_has l dC dI h0 ar ca p2 p3 _ _ _ hc_15 _) (cwV 2 hts gq_X9_withinOf_X9_has_246 rfl rfl rfl (by decide +kernel) ⟨Nat.le_of_ble_eq_true rfl, Nat.le_of_ble_eq_true rfl⟩) ⟨Pr.blind _, va_recv hK hp.1 (ci := 11) (q0 := 0) rfl rfl, r_pre hp hK hN hZ hA⟩ rfl rfl hl.1 rfl (lv_room (Nat.le_of_ble_eq_true rfl)) dX9_withinOf_13 ⟨Nat.le_of_ble_eq_true rfl, Nat.le_of_ble_eq_true rfl⟩) (fun H locs hp => ?_)
  refine lv_istore (lv' := [(7, .int r_16), (6, .int r_13), (0, .ref h0), (1, .int p0), (2, .int p1), (3, .int p2), (4, .int p3), (5, .int p4)]) hx hb dX9_withinOf_16 hl (by decide) rfl (fun ls hl => ?_)
  refine lv_aload_n hx hb dX9_withinOf_18 rfl (lv_at hl 2 rfl) ?_
  refine r_ga hx hb hts iRX9 hown hK hp 3 (by decide) (by decide) (hts (.fieldLink RX9 20 "RecordBenchModel" "inner" "[I") (by decide +kernel)) dX9_withinOf_19 ?_
  refine lv_bipush (v := 31) hx hb dX9_withinOf_22 (by decide) ?_
  refine lv_iload_n hx hb dX9_withinOf_24 rfl (lv_at hl 3 rfl) ?_
  refine lv_imul hx hb dX9_withinOf_25 ?_
  refine lv_iload hx hb dX9_withinOf_26 (lv_at hl 6 rfl) ?_
  refine lv_iadd hx hb dX9_withinOf_28 ?_
  obtain ⟨g_17, hf⟩ := gd_some hf
  refine r_ai (n := 248) hx hb hK hp 3 3 rfl rfl rfl g_17 dX9_withinOf_29 ?_
  obtain ⟨v_18, ev_18, hf⟩ := nam_some hf
  refine W_toi (y := v_18) ev_18.symm ?_
  refine lv_istore (lv' := [(8, .int v_18), (7, .int r_16), (6, .int r_13), (0, .ref h0), (1, .int p0), (2, .int p1), (3, .int p2), (4, .int p3), (5, .int p4)]) hx hb dX9_withinOf_30 hl (by decide) rfl (fun ls hl => ?_)
  refine lv_aload_n hx hb dX9_withinOf_32 rfl (lv_at hl 3 rfl) ?_
  refine r_ga hx hb hts iRX9 hown hK hp 3 (by decide) (by decide) (hts (.fieldLink RX9 20 "RecordBenchModel" "inner" "[I") (by decide +kernel)) dX9_withinOf_33 ?_
  refine lv_bipush (v := 31) hx hb dX9_withinOf_36 (by decide) ?_
  refine lv_iload_n hx hb dX9_withinOf_38 rfl (lv_at hl 5 rfl) ?_
  refine lv_imul hx hb dX9_withinOf_39 ?_
  refine lv_iload hx hb dX9_withinOf_40 (lv_at hl 7 rfl) ?_
  refine lv_iadd hx hb dX9_withinOf_42 ?_
  obtain ⟨g_19, hf⟩ := gd_some hf
  refine r_ai (n := 248) hx hb hK hp 3 3 rfl rfl rfl g_19 dX9_withinOf_43 ?_
  obtain ⟨v_20, ev_20, hf⟩ := nam_some hf
  refine W_toi (y := v_20) ev_20.symm ?_
  refine lv_istore (lv' := [(9, .int v_20), (8, .int v_18), (7, .int r_16), (6, .int r_13), (0, .ref h0), (1, .int p0), (2, .int p1), (3, .int p2), (4, .int p3), (5, .int p4)]) hx hb dX9_withinOf_44 hl (by decide) rfl (fun ls hl => ?_)
  refine lv_aload_n hx hb dX9_withinOf_46 rfl (lv_at hl 4 rfl) ?_
  refine r_ga hx hb hts iRX9 hown hK hp 3 (by decide) (by decide) (hts (.fieldLink RX9 20 "RecordBenchModel" "inner" "[I") (by decide +kernel)) dX9_withinOf_47 ?_
  refine lv_bipush (v := 31) hx hb dX9_withinOf_50 (by decide) ?_
  refine lv_iload_n hx hb dX9_withinOf_52 rfl (lv_at hl 7 rfl) ?_
  refine lv_imul hx hb dX9_withinOf_53 ?_
  refine lv_iload hx hb dX9_withinOf_54 (lv_at hl 8 rfl) ?_
  refine lv_iadd hx hb dX9_withinOf_56 ?_
  obtain ⟨g_21, hf⟩ := gd_some hf
  refine r_ai (n := 248) hx hb hK hp 3 3 rfl rfl rfl g_21 dX9_withinOf_57 ?_
  obtain ⟨v_22, ev_22, hf⟩ := nam_some hf
  refine W_toi (y := v_22) ev_22.symm ?_
  refine lv_istore (lv' := [(10, .int v_22), (9, .int v_20), (8, .int v_18), (7, .int r_16), (6, .int r_13), (0, .ref h0), (1, .int p0), (2, .int p1), (3, .int p2), (4, .int p3), (5, .int p4)]) hx hb dX9_withinOf_58 hl (by decide) rfl (fun ls hl => ?_)
  refine lv_iload hx hb dX9_withinOf_60 (lv_at hl 4 rfl) ?_
  refine lv_if_eq (tgt := 87) hx hb dX9_withinOf_62 (by decide) (fun c_23 => ?_) (fun c_23 => ?_)
  · have hf := pif_t c_23 hf
    exact J87 (p4, r_13, r_16, v_18, v_20, v_22, st_14) _ _ _ ⟨hf, hp, (lv_sub hl [5, 10, 4, 3, 2, 1, 0] rfl)⟩
  · have hf := pif_f c_23 hf
    refine lv_iload hx hb dX9_withinOf_65 (lv_at hl 3 rfl) ?_
    refine lv_if_eq (tgt := 87) hx hb dX9_withinOf_67 (by decide) (fun c_24 => ?_) (fun c_24 => ?_)
    · have hf := pif_t c_24 hf
      exact J87 (p4, r_13, r_16, v_18, v_20, v_22, st_14) _ _ _ ⟨hf, hp, (lv_sub hl [5, 10, 4, 3, 2, 1, 0] rfl)⟩
    · have hf := pif_f c_24 hf
      refine lv_aload_n hx hb dX9_withinOf_70 rfl (lv_at hl 5 rfl) ?_
      refine r_ga hx hb hts iRX9 hown hK hp 57 (by decide) (by decide) (hts (.fieldLink RX9 126 "RecordBenchModel" "why" "[I") (by decide +kernel)) dX9_withinOf_71 ?_
      refine lv_iload hx hb dX9_withinOf_74 (lv_at hl 2 rfl) ?_
      refine lv_iload hx hb dX9_withinOf_76 (lv_at hl 1 rfl) ?_
      refine lv_iload hx hb dX9_withinOf_78 (lv_at hl 0 rfl) ?_
      refine lv_iload hx hb dX9_withinOf_80 (lv_at hl 10 rfl) ?_
      obtain ⟨r_27, st_25, hc_26, hf⟩ := bnd_some hf
      refine r_ci hp hA (va_runS (As := [.int v_18, .int v_20, .int v_22, .int p4]) (rest := [.ref (ar 57)]) ⟨hx, hb, hml, hown, hts⟩ (c_X9_place l dC dI h0 ar ca v_18 v_20 v_22 p4 _ _ _ hc_26 _) (cwS 4 hts gq_X9_withinOf_X9_place_350 rfl rfl rfl (by decide +kernel) ⟨Nat.le_of_ble_eq_true rfl, Nat.le_of_ble_eq_true rfl⟩) ⟨Pr.blind _, r_pre hp hK hN hZ hA⟩ rfl rfl hl.1 rfl (lv_room (Nat.le_of_ble_eq_true rfl)) dX9_withinOf_82 ⟨Nat.le_of_ble_eq_true rfl, Nat.le_of_ble_eq_true rfl⟩) (fun H locs hp => ?_)
      obtain ⟨g_28, hf⟩ := gd_some hf
      refine r_ai (n := 1024) hx hb hK hp 27 57 rfl rfl rfl g_28 dX9_withinOf_85 ?_
      obtain ⟨e1, e2⟩ := pr_some hf
      exact W.iret (v := gF st_25 57 r_27.toNatClampNeg) hx hb hr (fun t ht hW => ⟨⟨gF st_25 57 r_27.toNatClampNeg, (), rfl, e1, Rp.end e2 hp hK ht hW⟩, hp.2.2.F ht⟩) hp.2.2.2.2 dX9_withinOf_86
noncomputable def x9_whyOf_66  (l1 : Int32) (l2 : Int32) (l3 : Int32) (l4 : Int32) (l5 : Int32) (st : RS) : Option (Int32 × RS) := bnd (x9_isMated l1 l2 l4 st) (fun r_3 st_1 => pif (r_3 = 0) (bnd (x9_isMated l1 l3 l4 st_1) (fun r_7 st_5 => pif (r_7 = 0) (bnd (x9_sortOf l1 l4 st_5) (fun r_11 st_9 => pif (r_11 = 6) (bnd (x9_withinOf l1 l2 l3 l4 l5 st_9) (fun r_15 st_13 => pif (r_15 ≤ 0) (some ((0 : Int32), st_13)) (some ((5 : Int32), st_13)))) (some ((0 : Int32), st_9)))) (some ((4 : Int32), st_5)))) (some ((4 : Int32), st_1)))
noncomputable def x9_whyOf (p0 : Int32) (p1 : Int32) (p2 : Int32) (p3 : Int32) (p4 : Int32) (st : RS) : Option (Int32 × RS) := bnd (x9_isOther p0 p1 p3 st) (fun r_19 st_17 => pif (r_19 = 0) (bnd (x9_isOther p0 p2 p3 st_17) (fun r_23 st_21 => pif (r_23 = 0) (bnd (x9_isNarrower p0 p1 p3 st_21) (fun r_27 st_25 => pif (r_27 = 0) (bnd (x9_isNarrower p0 p2 p3 st_25) (fun r_31 st_29 => pif (r_31 = 0) (pif (p4 = 0) (bnd (x9_differs p0 p2 p3 st_29) (fun r_36 st_34 => pif (r_36 = 0) (x9_whyOf_66  p0 p1 p2 p3 p4 st_34) (some ((3 : Int32), st_34)))) (x9_whyOf_66  p0 p1 p2 p3 p4 st_29)) (some ((2 : Int32), st_29)))) (some ((2 : Int32), st_25)))) (some ((1 : Int32), st_21)))) (some ((1 : Int32), st_17)))
def wq_X9_whyOf : List Cond := .code yX9_whyOf cX9_whyOf 6 (some .int) :: (([.methodLink RX9 364 yX9_isMated, .instanceMethod yX9_isMated, .selects RX9 yX9_isMated yX9_isMated, .initialized RX9, .methodLink RX9 346 yX9_sortOf, .instanceMethod yX9_sortOf, .selects RX9 yX9_sortOf yX9_sortOf, .methodLink RX9 367 yX9_withinOf, .instanceMethod yX9_withinOf, .selects RX9 yX9_withinOf yX9_withinOf, .methodLink RX9 354 yX9_isOther, .instanceMethod yX9_isOther, .selects RX9 yX9_isOther yX9_isOther, .methodLink RX9 358 yX9_isNarrower, .instanceMethod yX9_isNarrower, .selects RX9 yX9_isNarrower yX9_isNarrower, .methodLink RX9 361 yX9_differs, .instanceMethod yX9_differs, .selects RX9 yX9_differs yX9_differs, .code yX9_isMated cX9_isMated 5 (some .boolean), .fieldLink RX9 17 "RecordBenchModel" "group" "[I", .methodLink RX9 246 yX9_has, .instanceMethod yX9_has, .selects RX9 yX9_has yX9_has, .code yX9_has cX9_has 3 (some .boolean), .fieldLink RX9 36 "RecordBenchModel" "isThere" "[Z", .fieldLink RX9 13 "RecordBenchModel" "kind" "[I", .code yX9_sortOf cX9_sortOf 4 (some .int), .code yX9_withinOf cX9_withinOf 11 (some .int), .fieldLink RX9 20 "RecordBenchModel" "inner" "[I", .fieldLink RX9 126 "RecordBenchModel" "why" "[I", .methodLink RX9 350 yX9_place, .static yX9_place, .code yX9_place cX9_place 4 (some .int), .code yX9_isOther cX9_isOther 4 (some .boolean), .code yX9_isNarrower cX9_isNarrower 4 (some .boolean), .code yX9_differs cX9_differs 8 (some .boolean), .fieldLink RX9 30 "RecordBenchModel" "plain" "[J", .fieldLink RX9 33 "RecordBenchModel" "plainText" "[I"] : List Cond) ++ wsX90)
theorem gs_wq_X9_whyOf_wsX90 : GoodIn wq_X9_whyOf wsX90 := fun w h => ⟨List.mem_cons_of_mem _ (List.mem_append_right _ h), (gt_wsX90 w h).2⟩
set_option maxRecDepth 20000 in
theorem gq_X9_whyOf_X9_isMated_364 : GoodIn wq_X9_whyOf (wsV RX9 364 RX9 yX9_isMated wq_X9_isMated) := goodIn_app (goodIn_r _ [1, 2, 3, 4] rfl rfl) (goodIn_ca (goodIn_r _ [20, 21, 22, 23, 24, 4, 25, 26, 27] rfl rfl) gs_wq_X9_whyOf_wsX90)
set_option maxRecDepth 20000 in
theorem gq_X9_whyOf_X9_sortOf_346 : GoodIn wq_X9_whyOf (wsV RX9 346 RX9 yX9_sortOf wq_X9_sortOf) := goodIn_app (goodIn_r _ [5, 6, 7, 4] rfl rfl) (goodIn_ca (goodIn_r _ [28, 27] rfl rfl) gs_wq_X9_whyOf_wsX90)
set_option maxRecDepth 20000 in
theorem gq_X9_whyOf_X9_withinOf_367 : GoodIn wq_X9_whyOf (wsV RX9 367 RX9 yX9_withinOf wq_X9_withinOf) := goodIn_app (goodIn_r _ [8, 9, 10, 4] rfl rfl) (goodIn_ca (goodIn_r _ [29, 30, 31, 32, 33, 4, 22, 23, 24, 34, 25, 26, 27] rfl rfl) gs_wq_X9_whyOf_wsX90)
set_option maxRecDepth 20000 in
theorem gq_X9_whyOf_X9_isOther_354 : GoodIn wq_X9_whyOf (wsV RX9 354 RX9 yX9_isOther wq_X9_isOther) := goodIn_app (goodIn_r _ [11, 12, 13, 4] rfl rfl) (goodIn_ca (goodIn_r _ [35, 22, 23, 24, 4, 5, 6, 7, 25, 26, 27, 28] rfl rfl) gs_wq_X9_whyOf_wsX90)
set_option maxRecDepth 20000 in
theorem gq_X9_whyOf_X9_isNarrower_358 : GoodIn wq_X9_whyOf (wsV RX9 358 RX9 yX9_isNarrower wq_X9_isNarrower) := goodIn_app (goodIn_r _ [14, 15, 16, 4] rfl rfl) (goodIn_ca (goodIn_r _ [36, 27, 22, 23, 24, 4, 5, 6, 7, 25, 26, 28] rfl rfl) gs_wq_X9_whyOf_wsX90)
set_option maxRecDepth 20000 in
theorem gq_X9_whyOf_X9_differs_361 : GoodIn wq_X9_whyOf (wsV RX9 361 RX9 yX9_differs wq_X9_differs) := goodIn_app (goodIn_r _ [17, 18, 19, 4] rfl rfl) (goodIn_ca (goodIn_r _ [37, 38, 39, 5, 6, 7, 4, 22, 23, 24, 28, 27, 25, 26] rfl rfl) gs_wq_X9_whyOf_wsX90)
set_option maxHeartbeats 4000000 in
set_option maxRecDepth 100000 in
theorem c_X9_whyOf (l : Launch) (dC : Nat → ClassId) (dI : Nat → Nat → Nat) (h0 : Nat) (ar : Nat → Nat) (ca : Nat → ClassId) (p0 : Int32) (p1 : Int32) (p2 : Int32) (p3 : Int32) (p4 : Int32) (st st' : RS) (r : Int32) (hf : x9_whyOf p0 p1 p2 p3 p4 st = some (r, st')) (sz : Nat) : Met l yX9_whyOf wq_X9_whyOf ({ frames := 2, cells := 0, slots := 0, locals := 61 }) (va_Pc [.ref h0, .int p0, .int p1, .int p2, .int p3, .int p4] (Pr (dC, dI) (rT ca) [] (RW h0 ar ca st) sz)) (va_Qi (fun r' (_ : Unit) => r' = r) (Bq (dC, dI) (fun _ => RW h0 ar ca st') (fun _ => []) (va_A (RW h0 ar ca st) sz)) (va_A (RW h0 ar ca st) sz)) 0 0 (va_A (RW h0 ar ca st) sz) := by
  refine Met.ofW (cc := cX9_whyOf) (maxL := 6) (ret := (some .int)) (by decide) rfl ?_
  intro p e s m args below meth c s₁ B hml hv
  obtain ⟨rfl, hsz, hP, hK, hD0, hN, hZ, hR⟩ := hv
  have hx := B.exec
  have hb := B.bytes
  have hr := B.returns
  have hts := atoms_spec (ws := wq_X9_whyOf) B.pre
  have hown : s.vm.findClass RX9 = some m.cls := findClass_of_methodNamed B.named
  subst hsz
  have hp : Rp (dC, dI) h0 ar ca (va_A (RW h0 ar ca st) s.heap.size) s.heap st s.heap [] := ⟨hP, hD0.self, va_S.rf⟩
  generalize hAe : va_A (RW h0 ar ca st) s.heap.size = A at hp hZ ⊢
  have hA : ∀ q : Nat, s.heap.size ≤ q → A q := fun q h => by rw [← hAe]; exact Or.inr h
  have hl := lv_entry ([.ref h0, .int p0, .int p1, .int p2, .int p3, .int p4]) (n := 6) (Nat.le_of_ble_eq_true rfl)
  rw [lg_entry_eq]
  generalize (lg_sl ([.ref h0, .int p0, .int p1, .int p2, .int p3, .int p4]) ++ List.replicate (6 - (lg_sl ([.ref h0, .int p0, .int p1, .int p2, .int p3, .int p4])).length) Slot.unset).toArray = ls at hl ⊢
  have hl : lv_has ls 6 [(0, .ref h0), (1, .int p0), (2, .int p1), (3, .int p2), (4, .int p3), (5, .int p4)] := hl
  refine W_blk (fun (u : Int32 × Int32 × Int32 × Int32 × Int32 × RS) H locs ls => match u with | (l1, l2, l3, l4, l5, st) => x9_whyOf_66 l1 l2 l3 l4 l5 st = some (r, st') ∧ Rp (dC, dI) h0 ar ca A s.heap st H locs ∧ lv_has ls 6 [(0, .ref h0), (1, .int l1), (2, .int l2), (3, .int l3), (4, .int l4), (5, .int l5)]) (fun (u : Int32 × Int32 × Int32 × Int32 × Int32 × RS) ls => match u with | (l1, l2, l3, l4, l5, st) => F0 m 66 ls []) ?_ (fun J66 => ?_)
  · intro u H locs ls hu
    obtain ⟨l1, l2, l3, l4, l5, st⟩ := u
    obtain ⟨hf, hp, hl⟩ := hu
    show W p l e _ s m _ below meth c _ _ _ _ _ (F0 m 66 ls [])
    unfold x9_whyOf_66 at hf
    refine lv_aload_n hx hb dX9_whyOf_66 rfl (lv_at hl 0 rfl) ?_
    refine lv_iload_n hx hb dX9_whyOf_67 rfl (lv_at hl 1 rfl) ?_
    refine lv_iload_n hx hb dX9_whyOf_68 rfl (lv_at hl 2 rfl) ?_
    refine lv_iload hx hb dX9_whyOf_69 (lv_at hl 4 rfl) ?_
    obtain ⟨r_3, st_1, hc_2, hf⟩ := bnd_some hf
    refine r_ci hp hA (va_runV (As := [.int l1, .int l2, .int l4]) (rest := []) ⟨hx, hb, hml, hown, hts⟩ (c_X9_isMated l dC dI h0 ar ca l1 l2 l4 _ _ _ hc_2 _) (cwV 3 hts gq_X9_whyOf_X9_isMated_364 rfl rfl rfl (by decide +kernel) ⟨Nat.le_of_ble_eq_true rfl, Nat.le_of_ble_eq_true rfl⟩) ⟨Pr.blind _, va_recv hK hp.1 (ci := 11) (q0 := 0) rfl rfl, r_pre hp hK hN hZ hA⟩ rfl rfl hl.1 rfl (lv_room (Nat.le_of_ble_eq_true rfl)) dX9_whyOf_71 ⟨Nat.le_of_ble_eq_true rfl, Nat.le_of_ble_eq_true rfl⟩) (fun H locs hp => ?_)
    refine lv_if_ne (tgt := 88) hx hb dX9_whyOf_74 (by decide) (fun c_4 => ?_) (fun c_4 => ?_)
    · have hf := pif_f c_4 hf
      refine lv_iconst (v := 4) hx hb dX9_whyOf_88 (by decide) ?_
      obtain ⟨e1, e2⟩ := pr_some hf
      exact W.iret (v := 4) hx hb hr (fun t ht hW => ⟨⟨4, (), rfl, e1, Rp.end e2 hp hK ht hW⟩, hp.2.2.F ht⟩) hp.2.2.2.2 dX9_whyOf_89
    · have hf := pif_t c_4 hf
      refine lv_aload_n hx hb dX9_whyOf_77 rfl (lv_at hl 0 rfl) ?_
      refine lv_iload_n hx hb dX9_whyOf_78 rfl (lv_at hl 1 rfl) ?_
      refine lv_iload_n hx hb dX9_whyOf_79 rfl (lv_at hl 3 rfl) ?_
      refine lv_iload hx hb dX9_whyOf_80 (lv_at hl 4 rfl) ?_
      obtain ⟨r_7, st_5, hc_6, hf⟩ := bnd_some hf
      refine r_ci hp hA (va_runV (As := [.int l1, .int l3, .int l4]) (rest := []) ⟨hx, hb, hml, hown, hts⟩ (c_X9_isMated l dC dI h0 ar ca l1 l3 l4 _ _ _ hc_6 _) (cwV 3 hts gq_X9_whyOf_X9_isMated_364 rfl rfl rfl (by decide +kernel) ⟨Nat.le_of_ble_eq_true rfl, Nat.le_of_ble_eq_true rfl⟩) ⟨Pr.blind _, va_recv hK hp.1 (ci := 11) (q0 := 0) rfl rfl, r_pre hp hK hN hZ hA⟩ rfl rfl hl.1 rfl (lv_room (Nat.le_of_ble_eq_true rfl)) dX9_whyOf_82 ⟨Nat.le_of_ble_eq_true rfl, Nat.le_of_ble_eq_true rfl⟩) (fun H locs hp => ?_)
      refine lv_if_eq (tgt := 90) hx hb dX9_whyOf_85 (by decide) (fun c_8 => ?_) (fun c_8 => ?_)
      · have hf := pif_t c_8 hf
        refine lv_aload_n hx hb dX9_whyOf_90 rfl (lv_at hl 0 rfl) ?_
        refine lv_iload_n hx hb dX9_whyOf_91 rfl (lv_at hl 1 rfl) ?_
        refine lv_iload hx hb dX9_whyOf_92 (lv_at hl 4 rfl) ?_
        obtain ⟨r_11, st_9, hc_10, hf⟩ := bnd_some hf
        refine r_ci hp hA (va_runV (As := [.int l1, .int l4]) (rest := []) ⟨hx, hb, hml, hown, hts⟩ (c_X9_sortOf l dC dI h0 ar ca l1 l4 _ _ _ hc_10 _) (cwV 2 hts gq_X9_whyOf_X9_sortOf_346 rfl rfl rfl (by decide +kernel) ⟨Nat.le_of_ble_eq_true rfl, Nat.le_of_ble_eq_true rfl⟩) ⟨Pr.blind _, va_recv hK hp.1 (ci := 11) (q0 := 0) rfl rfl, r_pre hp hK hN hZ hA⟩ rfl rfl hl.1 rfl (lv_room (Nat.le_of_ble_eq_true rfl)) dX9_whyOf_94 ⟨Nat.le_of_ble_eq_true rfl, Nat.le_of_ble_eq_true rfl⟩) (fun H locs hp => ?_)
        refine lv_bipush (v := 6) hx hb dX9_whyOf_97 (by decide) ?_
        refine lv_icmp_ne (tgt := 120) hx hb dX9_whyOf_99 (by decide) (fun c_12 => ?_) (fun c_12 => ?_)
        · have hf := pif_f c_12 hf
          refine lv_iconst (v := 0) hx hb dX9_whyOf_120 (by decide) ?_
          obtain ⟨e1, e2⟩ := pr_some hf
          exact W.iret (v := 0) hx hb hr (fun t ht hW => ⟨⟨0, (), rfl, e1, Rp.end e2 hp hK ht hW⟩, hp.2.2.F ht⟩) hp.2.2.2.2 dX9_whyOf_121
        · have hf := pif_t c_12 hf
          refine lv_aload_n hx hb dX9_whyOf_102 rfl (lv_at hl 0 rfl) ?_
          refine lv_iload_n hx hb dX9_whyOf_103 rfl (lv_at hl 1 rfl) ?_
          refine lv_iload_n hx hb dX9_whyOf_104 rfl (lv_at hl 2 rfl) ?_
          refine lv_iload_n hx hb dX9_whyOf_105 rfl (lv_at hl 3 rfl) ?_
          refine lv_iload hx hb dX9_whyOf_106 (lv_at hl 4 rfl) ?_
          refine lv_iload hx hb dX9_whyOf_108 (lv_at hl 5 rfl) ?_
          obtain ⟨r_15, st_13, hc_14, hf⟩ := bnd_some hf
          refine r_ci hp hA (va_runV (As := [.int l1, .int l2, .int l3, .int l4, .int l5]) (rest := []) ⟨hx, hb, hml, hown, hts⟩ (c_X9_withinOf l dC dI h0 ar ca l1 l2 l3 l4 l5 _ _ _ hc_14 _) (cwV 5 hts gq_X9_whyOf_X9_withinOf_367 rfl rfl rfl (by decide +kernel) ⟨Nat.le_of_ble_eq_true rfl, Nat.le_of_ble_eq_true rfl⟩) ⟨Pr.blind _, va_recv hK hp.1 (ci := 11) (q0 := 0) rfl rfl, r_pre hp hK hN hZ hA⟩ rfl rfl hl.1 rfl (lv_room (Nat.le_of_ble_eq_true rfl)) dX9_whyOf_110 ⟨Nat.le_of_ble_eq_true rfl, Nat.le_of_ble_eq_true rfl⟩) (fun H locs hp => ?_)
          refine lv_if_le (tgt := 120) hx hb dX9_whyOf_113 (by decide) (fun c_16 => ?_) (fun c_16 => ?_)
          · have hf := pif_t c_16 hf
            refine lv_iconst (v := 0) hx hb dX9_whyOf_120 (by decide) ?_
            obtain ⟨e1, e2⟩ := pr_some hf
            exact W.iret (v := 0) hx hb hr (fun t ht hW => ⟨⟨0, (), rfl, e1, Rp.end e2 hp hK ht hW⟩, hp.2.2.F ht⟩) hp.2.2.2.2 dX9_whyOf_121
          · have hf := pif_f c_16 hf
            refine lv_iconst (v := 5) hx hb dX9_whyOf_116 (by decide) ?_
            refine lv_goto (tgt := 121) hx hb dX9_whyOf_117 (by decide) ?_
            obtain ⟨e1, e2⟩ := pr_some hf
            exact W.iret (v := 5) hx hb hr (fun t ht hW => ⟨⟨5, (), rfl, e1, Rp.end e2 hp hK ht hW⟩, hp.2.2.F ht⟩) hp.2.2.2.2 dX9_whyOf_121
      · have hf := pif_f c_8 hf
        refine lv_iconst (v := 4) hx hb dX9_whyOf_88 (by decide) ?_
        obtain ⟨e1, e2⟩ := pr_some hf
        exact W.iret (v := 4) hx hb hr (fun t ht hW => ⟨⟨4, (), rfl, e1, Rp.end e2 hp hK ht hW⟩, hp.2.2.F ht⟩) hp.2.2.2.2 dX9_whyOf_89
  unfold x9_whyOf at hf
  refine lv_aload_n hx hb dX9_whyOf_0 rfl (lv_at hl 0 rfl) ?_
  refine lv_iload_n hx hb dX9_whyOf_1 rfl (lv_at hl 1 rfl) ?_
  refine lv_iload_n hx hb dX9_whyOf_2 rfl (lv_at hl 2 rfl) ?_
  refine lv_iload hx hb dX9_whyOf_3 (lv_at hl 4 rfl) ?_
  obtain ⟨r_19, st_17, hc_18, hf⟩ := bnd_some hf
  refine r_ci hp hA (va_runV (As := [.int p0, .int p1, .int p3]) (rest := []) ⟨hx, hb, hml, hown, hts⟩ (c_X9_isOther l dC dI h0 ar ca p0 p1 p3 _ _ _ hc_18 _) (cwV 3 hts gq_X9_whyOf_X9_isOther_354 rfl rfl rfl (by decide +kernel) ⟨Nat.le_of_ble_eq_true rfl, Nat.le_of_ble_eq_true rfl⟩) ⟨Pr.blind _, va_recv hK hp.1 (ci := 11) (q0 := 0) rfl rfl, r_pre hp hK hN hZ hA⟩ rfl rfl hl.1 rfl (lv_room (Nat.le_of_ble_eq_true rfl)) dX9_whyOf_5 ⟨Nat.le_of_ble_eq_true rfl, Nat.le_of_ble_eq_true rfl⟩) (fun H locs hp => ?_)
  refine lv_if_ne (tgt := 22) hx hb dX9_whyOf_8 (by decide) (fun c_20 => ?_) (fun c_20 => ?_)
  · have hf := pif_f c_20 hf
    refine lv_iconst (v := 1) hx hb dX9_whyOf_22 (by decide) ?_
    obtain ⟨e1, e2⟩ := pr_some hf
    exact W.iret (v := 1) hx hb hr (fun t ht hW => ⟨⟨1, (), rfl, e1, Rp.end e2 hp hK ht hW⟩, hp.2.2.F ht⟩) hp.2.2.2.2 dX9_whyOf_23
  · have hf := pif_t c_20 hf
    refine lv_aload_n hx hb dX9_whyOf_11 rfl (lv_at hl 0 rfl) ?_
    refine lv_iload_n hx hb dX9_whyOf_12 rfl (lv_at hl 1 rfl) ?_
    refine lv_iload_n hx hb dX9_whyOf_13 rfl (lv_at hl 3 rfl) ?_
    refine lv_iload hx hb dX9_whyOf_14 (lv_at hl 4 rfl) ?_
    obtain ⟨r_23, st_21, hc_22, hf⟩ := bnd_some hf
    refine r_ci hp hA (va_runV (As := [.int p0, .int p2, .int p3]) (rest := []) ⟨hx, hb, hml, hown, hts⟩ (c_X9_isOther l dC dI h0 ar ca p0 p2 p3 _ _ _ hc_22 _) (cwV 3 hts gq_X9_whyOf_X9_isOther_354 rfl rfl rfl (by decide +kernel) ⟨Nat.le_of_ble_eq_true rfl, Nat.le_of_ble_eq_true rfl⟩) ⟨Pr.blind _, va_recv hK hp.1 (ci := 11) (q0 := 0) rfl rfl, r_pre hp hK hN hZ hA⟩ rfl rfl hl.1 rfl (lv_room (Nat.le_of_ble_eq_true rfl)) dX9_whyOf_16 ⟨Nat.le_of_ble_eq_true rfl, Nat.le_of_ble_eq_true rfl⟩) (fun H locs hp => ?_)
    refine lv_if_eq (tgt := 24) hx hb dX9_whyOf_19 (by decide) (fun c_24 => ?_) (fun c_24 => ?_)
    · have hf := pif_t c_24 hf
      refine lv_aload_n hx hb dX9_whyOf_24 rfl (lv_at hl 0 rfl) ?_
      refine lv_iload_n hx hb dX9_whyOf_25 rfl (lv_at hl 1 rfl) ?_
      refine lv_iload_n hx hb dX9_whyOf_26 rfl (lv_at hl 2 rfl) ?_
      refine lv_iload hx hb dX9_whyOf_27 (lv_at hl 4 rfl) ?_
      obtain ⟨r_27, st_25, hc_26, hf⟩ := bnd_some hf
      refine r_ci hp hA (va_runV (As := [.int p0, .int p1, .int p3]) (rest := []) ⟨hx, hb, hml, hown, hts⟩ (c_X9_isNarrower l dC dI h0 ar ca p0 p1 p3 _ _ _ hc_26 _) (cwV 3 hts gq_X9_whyOf_X9_isNarrower_358 rfl rfl rfl (by decide +kernel) ⟨Nat.le_of_ble_eq_true rfl, Nat.le_of_ble_eq_true rfl⟩) ⟨Pr.blind _, va_recv hK hp.1 (ci := 11) (q0 := 0) rfl rfl, r_pre hp hK hN hZ hA⟩ rfl rfl hl.1 rfl (lv_room (Nat.le_of_ble_eq_true rfl)) dX9_whyOf_29 ⟨Nat.le_of_ble_eq_true rfl, Nat.le_of_ble_eq_true rfl⟩) (fun H locs hp => ?_)
      refine lv_if_ne (tgt := 46) hx hb dX9_whyOf_32 (by decide) (fun c_28 => ?_) (fun c_28 => ?_)
      · have hf := pif_f c_28 hf
        refine lv_iconst (v := 2) hx hb dX9_whyOf_46 (by decide) ?_
        obtain ⟨e1, e2⟩ := pr_some hf
        exact W.iret (v := 2) hx hb hr (fun t ht hW => ⟨⟨2, (), rfl, e1, Rp.end e2 hp hK ht hW⟩, hp.2.2.F ht⟩) hp.2.2.2.2 dX9_whyOf_47
      · have hf := pif_t c_28 hf
        refine lv_aload_n hx hb dX9_whyOf_35 rfl (lv_at hl 0 rfl) ?_
        refine lv_iload_n hx hb dX9_whyOf_36 rfl (lv_at hl 1 rfl) ?_
        refine lv_iload_n hx hb dX9_whyOf_37 rfl (lv_at hl 3 rfl) ?_
        refine lv_iload hx hb dX9_whyOf_38 (lv_at hl 4 rfl) ?_
        obtain ⟨r_31, st_29, hc_30, hf⟩ := bnd_some hf
        refine r_ci hp hA (va_runV (As := [.int p0, .int p2, .int p3]) (rest := []) ⟨hx, hb, hml, hown, hts⟩ (c_X9_isNarrower l dC dI h0 ar ca p0 p2 p3 _ _ _ hc_30 _) (cwV 3 hts gq_X9_whyOf_X9_isNarrower_358 rfl rfl rfl (by decide +kernel) ⟨Nat.le_of_ble_eq_true rfl, Nat.le_of_ble_eq_true rfl⟩) ⟨Pr.blind _, va_recv hK hp.1 (ci := 11) (q0 := 0) rfl rfl, r_pre hp hK hN hZ hA⟩ rfl rfl hl.1 rfl (lv_room (Nat.le_of_ble_eq_true rfl)) dX9_whyOf_40 ⟨Nat.le_of_ble_eq_true rfl, Nat.le_of_ble_eq_true rfl⟩) (fun H locs hp => ?_)
        refine lv_if_eq (tgt := 48) hx hb dX9_whyOf_43 (by decide) (fun c_32 => ?_) (fun c_32 => ?_)
        · have hf := pif_t c_32 hf
          refine lv_iload hx hb dX9_whyOf_48 (lv_at hl 5 rfl) ?_
          refine lv_if_ne (tgt := 66) hx hb dX9_whyOf_50 (by decide) (fun c_33 => ?_) (fun c_33 => ?_)
          · have hf := pif_f c_33 hf
            exact J66 (p0, p1, p2, p3, p4, st_29) _ _ _ ⟨hf, hp, (lv_sub hl [0, 1, 2, 3, 4, 5] rfl)⟩
          · have hf := pif_t c_33 hf
            refine lv_aload_n hx hb dX9_whyOf_53 rfl (lv_at hl 0 rfl) ?_
            refine lv_iload_n hx hb dX9_whyOf_54 rfl (lv_at hl 1 rfl) ?_
            refine lv_iload_n hx hb dX9_whyOf_55 rfl (lv_at hl 3 rfl) ?_
            refine lv_iload hx hb dX9_whyOf_56 (lv_at hl 4 rfl) ?_
            obtain ⟨r_36, st_34, hc_35, hf⟩ := bnd_some hf
            refine r_ci hp hA (va_runV (As := [.int p0, .int p2, .int p3]) (rest := []) ⟨hx, hb, hml, hown, hts⟩ (c_X9_differs l dC dI h0 ar ca p0 p2 p3 _ _ _ hc_35 _) (cwV 3 hts gq_X9_whyOf_X9_differs_361 rfl rfl rfl (by decide +kernel) ⟨Nat.le_of_ble_eq_true rfl, Nat.le_of_ble_eq_true rfl⟩) ⟨Pr.blind _, va_recv hK hp.1 (ci := 11) (q0 := 0) rfl rfl, r_pre hp hK hN hZ hA⟩ rfl rfl hl.1 rfl (lv_room (Nat.le_of_ble_eq_true rfl)) dX9_whyOf_58 ⟨Nat.le_of_ble_eq_true rfl, Nat.le_of_ble_eq_true rfl⟩) (fun H locs hp => ?_)
            refine lv_if_eq (tgt := 66) hx hb dX9_whyOf_61 (by decide) (fun c_37 => ?_) (fun c_37 => ?_)
            · have hf := pif_t c_37 hf
              exact J66 (p0, p1, p2, p3, p4, st_34) _ _ _ ⟨hf, hp, (lv_sub hl [0, 1, 2, 3, 4, 5] rfl)⟩
            · have hf := pif_f c_37 hf
              refine lv_iconst (v := 3) hx hb dX9_whyOf_64 (by decide) ?_
              obtain ⟨e1, e2⟩ := pr_some hf
              exact W.iret (v := 3) hx hb hr (fun t ht hW => ⟨⟨3, (), rfl, e1, Rp.end e2 hp hK ht hW⟩, hp.2.2.F ht⟩) hp.2.2.2.2 dX9_whyOf_65
        · have hf := pif_f c_32 hf
          refine lv_iconst (v := 2) hx hb dX9_whyOf_46 (by decide) ?_
          obtain ⟨e1, e2⟩ := pr_some hf
          exact W.iret (v := 2) hx hb hr (fun t ht hW => ⟨⟨2, (), rfl, e1, Rp.end e2 hp hK ht hW⟩, hp.2.2.F ht⟩) hp.2.2.2.2 dX9_whyOf_47
    · have hf := pif_f c_24 hf
      refine lv_iconst (v := 1) hx hb dX9_whyOf_22 (by decide) ?_
      obtain ⟨e1, e2⟩ := pr_some hf
      exact W.iret (v := 1) hx hb hr (fun t ht hW => ⟨⟨1, (), rfl, e1, Rp.end e2 hp hK ht hW⟩, hp.2.2.F ht⟩) hp.2.2.2.2 dX9_whyOf_23
noncomputable def x9_walks_162 (k2 : Int32 → RS → Option (RS)) (k10 : Int32 → Int32 → RS → Option (RS)) (k18 : Int32 → Int32 → Int32 → RS → Option (RS)) (k27 : Int32 → Int32 → Int32 → Int32 → RS → Option (RS)) (k92 : Int32 → Int32 → Int32 → Int32 → Int32 → Int32 → RS → Option (RS)) (l1 : Int32) (l2 : Int32) (l3 : Int32) (l4 : Int32) (l5 : Int32) (l6 : Int32) (s0 : Int32) (s1 : Int32) (st : RS) : Option (RS) := gd (vp_in s1 1024) (nam (sF st 58 (upd (gF st 58) s1.toNatClampNeg s0)) (fun st_2 => nam (l6 + 1) (fun v_3 => k92 l1 l2 l3 l4 l5 v_3 st_2)))
noncomputable def x9_walks_92 (k2 : Int32 → RS → Option (RS)) (k10 : Int32 → Int32 → RS → Option (RS)) (k18 : Int32 → Int32 → Int32 → RS → Option (RS)) (k27 : Int32 → Int32 → Int32 → Int32 → RS → Option (RS)) : Nat → Int32 → Int32 → Int32 → Int32 → Int32 → Int32 → RS → Option (RS)
  | 0 => fun _ _ _ _ _ _ _ => none
  | n + 1 => fun l1 l2 l3 l4 l5 l6 st => pif (31 ≤ l6) (nam (l4 + 1) (fun v_5 => k27 l1 l2 l3 v_5 st)) (gd (vp_in l5 1024) (pif ((gF st 57 l5.toNatClampNeg) = 0) (bnd (x9_has l1 l6 st) (fun r_11 st_9 => pif (r_11 = 0) (nam (l6 + 1) (fun v_20 => (x9_walks_92 k2 k10 k18 k27 n) l1 l2 l3 l4 l5 v_20 st_9)) (bnd (x9_whyOf l1 l2 l3 l6 l4 st_9) (fun r_15 st_13 => gd (vp_in l5 1024) (nam (sF st_13 57 (upd (gF st_13 57) l5.toNatClampNeg r_15)) (fun st_17 => gd (vp_in l5 1024) (pif ((gF st_17 57 l5.toNatClampNeg) = 0) (x9_walks_162 k2 k10 k18 k27 (x9_walks_92 k2 k10 k18 k27 n) l1 l2 l3 l4 l5 l6 0 l5 st_17) (x9_walks_162 k2 k10 k18 k27 (x9_walks_92 k2 k10 k18 k27 n) l1 l2 l3 l4 l5 l6 l6 l5 st_17)))))))) (nam (l4 + 1) (fun v_8 => k27 l1 l2 l3 v_8 st))))
theorem x9_walks_92_z (k2 : Int32 → RS → Option (RS)) (k10 : Int32 → Int32 → RS → Option (RS)) (k18 : Int32 → Int32 → Int32 → RS → Option (RS)) (k27 : Int32 → Int32 → Int32 → Int32 → RS → Option (RS)) (l1 : Int32) (l2 : Int32) (l3 : Int32) (l4 : Int32) (l5 : Int32) (l6 : Int32) (st : RS) : x9_walks_92 k2 k10 k18 k27 0 l1 l2 l3 l4 l5 l6 st = none := rfl
theorem x9_walks_92_s (k2 : Int32 → RS → Option (RS)) (k10 : Int32 → Int32 → RS → Option (RS)) (k18 : Int32 → Int32 → Int32 → RS → Option (RS)) (k27 : Int32 → Int32 → Int32 → Int32 → RS → Option (RS)) (n : Nat) (l1 : Int32) (l2 : Int32) (l3 : Int32) (l4 : Int32) (l5 : Int32) (l6 : Int32) (st : RS) : x9_walks_92 k2 k10 k18 k27 (n + 1) l1 l2 l3 l4 l5 l6 st = pif (31 ≤ l6) (nam (l4 + 1) (fun v_5 => k27 l1 l2 l3 v_5 st)) (gd (vp_in l5 1024) (pif ((gF st 57 l5.toNatClampNeg) = 0) (bnd (x9_has l1 l6 st) (fun r_11 st_9 => pif (r_11 = 0) (nam (l6 + 1) (fun v_20 => (x9_walks_92 k2 k10 k18 k27 n) l1 l2 l3 l4 l5 v_20 st_9)) (bnd (x9_whyOf l1 l2 l3 l6 l4 st_9) (fun r_15 st_13 => gd (vp_in l5 1024) (nam (sF st_13 57 (upd (gF st_13 57) l5.toNatClampNeg r_15)) (fun st_17 => gd (vp_in l5 1024) (pif ((gF st_17 57 l5.toNatClampNeg) = 0) (x9_walks_162 k2 k10 k18 k27 (x9_walks_92 k2 k10 k18 k27 n) l1 l2 l3 l4 l5 l6 0 l5 st_17) (x9_walks_162 k2 k10 k18 k27 (x9_walks_92 k2 k10 k18 k27 n) l1 l2 l3 l4 l5 l6 l6 l5 st_17)))))))) (nam (l4 + 1) (fun v_8 => k27 l1 l2 l3 v_8 st)))) := rfl
noncomputable def x9_walks_27 (k2 : Int32 → RS → Option (RS)) (k10 : Int32 → Int32 → RS → Option (RS)) (k18 : Int32 → Int32 → Int32 → RS → Option (RS)) : Nat → Int32 → Int32 → Int32 → Int32 → RS → Option (RS)
  | 0 => fun _ _ _ _ _ => none
  | n + 1 => fun l1 l2 l3 l4 st => pif (2 ≤ l4) (nam (l3 + 1) (fun v_22 => k18 l1 l2 v_22 st)) (bnd (x9_place l1 l2 l3 l4 st) (fun r_25 st_23 => gd (vp_in r_25 1024) (nam (sF st_23 57 (upd (gF st_23 57) r_25.toNatClampNeg 0)) (fun st_27 => gd (vp_in r_25 1024) (nam (sF st_27 58 (upd (gF st_27 58) r_25.toNatClampNeg 0)) (fun st_29 => gd (vp_in l1 8) (pif ((gF st_29 0 l1.toNatClampNeg) = 0) (nam (l4 + 1) (fun v_32 => (x9_walks_27 k2 k10 k18 n) l1 l2 l3 v_32 st_29)) (gd (vp_in l2 8) (pif ((gF st_29 0 l2.toNatClampNeg) = 0) (nam (l4 + 1) (fun v_35 => (x9_walks_27 k2 k10 k18 n) l1 l2 l3 v_35 st_29)) (gd (vp_in l3 8) (pif ((gF st_29 0 l3.toNatClampNeg) = 0) (nam (l4 + 1) (fun v_38 => (x9_walks_27 k2 k10 k18 n) l1 l2 l3 v_38 st_29)) (x9_walks_92 k2 k10 k18 (x9_walks_27 k2 k10 k18 n) fuel l1 l2 l3 l4 r_25 1 st_29))))))))))))
theorem x9_walks_27_z (k2 : Int32 → RS → Option (RS)) (k10 : Int32 → Int32 → RS → Option (RS)) (k18 : Int32 → Int32 → Int32 → RS → Option (RS)) (l1 : Int32) (l2 : Int32) (l3 : Int32) (l4 : Int32) (st : RS) : x9_walks_27 k2 k10 k18 0 l1 l2 l3 l4 st = none := rfl
theorem x9_walks_27_s (k2 : Int32 → RS → Option (RS)) (k10 : Int32 → Int32 → RS → Option (RS)) (k18 : Int32 → Int32 → Int32 → RS → Option (RS)) (n : Nat) (l1 : Int32) (l2 : Int32) (l3 : Int32) (l4 : Int32) (st : RS) : x9_walks_27 k2 k10 k18 (n + 1) l1 l2 l3 l4 st = pif (2 ≤ l4) (nam (l3 + 1) (fun v_22 => k18 l1 l2 v_22 st)) (bnd (x9_place l1 l2 l3 l4 st) (fun r_25 st_23 => gd (vp_in r_25 1024) (nam (sF st_23 57 (upd (gF st_23 57) r_25.toNatClampNeg 0)) (fun st_27 => gd (vp_in r_25 1024) (nam (sF st_27 58 (upd (gF st_27 58) r_25.toNatClampNeg 0)) (fun st_29 => gd (vp_in l1 8) (pif ((gF st_29 0 l1.toNatClampNeg) = 0) (nam (l4 + 1) (fun v_32 => (x9_walks_27 k2 k10 k18 n) l1 l2 l3 v_32 st_29)) (gd (vp_in l2 8) (pif ((gF st_29 0 l2.toNatClampNeg) = 0) (nam (l4 + 1) (fun v_35 => (x9_walks_27 k2 k10 k18 n) l1 l2 l3 v_35 st_29)) (gd (vp_in l3 8) (pif ((gF st_29 0 l3.toNatClampNeg) = 0) (nam (l4 + 1) (fun v_38 => (x9_walks_27 k2 k10 k18 n) l1 l2 l3 v_38 st_29)) (x9_walks_92 k2 k10 k18 (x9_walks_27 k2 k10 k18 n) fuel l1 l2 l3 l4 r_25 1 st_29)))))))))))) := rfl
noncomputable def x9_walks_18 (k2 : Int32 → RS → Option (RS)) (k10 : Int32 → Int32 → RS → Option (RS)) : Nat → Int32 → Int32 → Int32 → RS → Option (RS)
  | 0 => fun _ _ _ _ => none
  | n + 1 => fun l1 l2 l3 st => pif (8 ≤ l3) (nam (l2 + 1) (fun v_40 => k10 l1 v_40 st)) (x9_walks_27 k2 k10 (x9_walks_18 k2 k10 n) fuel l1 l2 l3 0 st)
theorem x9_walks_18_z (k2 : Int32 → RS → Option (RS)) (k10 : Int32 → Int32 → RS → Option (RS)) (l1 : Int32) (l2 : Int32) (l3 : Int32) (st : RS) : x9_walks_18 k2 k10 0 l1 l2 l3 st = none := rfl
theorem x9_walks_18_s (k2 : Int32 → RS → Option (RS)) (k10 : Int32 → Int32 → RS → Option (RS)) (n : Nat) (l1 : Int32) (l2 : Int32) (l3 : Int32) (st : RS) : x9_walks_18 k2 k10 (n + 1) l1 l2 l3 st = pif (8 ≤ l3) (nam (l2 + 1) (fun v_40 => k10 l1 v_40 st)) (x9_walks_27 k2 k10 (x9_walks_18 k2 k10 n) fuel l1 l2 l3 0 st) := rfl
noncomputable def x9_walks_10 (k2 : Int32 → RS → Option (RS)) : Nat → Int32 → Int32 → RS → Option (RS)
  | 0 => fun _ _ _ => none
  | n + 1 => fun l1 l2 st => pif (8 ≤ l2) (nam (l1 + 1) (fun v_42 => k2 v_42 st)) (x9_walks_18 k2 (x9_walks_10 k2 n) fuel l1 l2 0 st)
theorem x9_walks_10_z (k2 : Int32 → RS → Option (RS)) (l1 : Int32) (l2 : Int32) (st : RS) : x9_walks_10 k2 0 l1 l2 st = none := rfl
theorem x9_walks_10_s (k2 : Int32 → RS → Option (RS)) (n : Nat) (l1 : Int32) (l2 : Int32) (st : RS) : x9_walks_10 k2 (n + 1) l1 l2 st = pif (8 ≤ l2) (nam (l1 + 1) (fun v_42 => k2 v_42 st)) (x9_walks_18 k2 (x9_walks_10 k2 n) fuel l1 l2 0 st) := rfl
noncomputable def x9_walks_2  : Nat → Int32 → RS → Option (RS)
  | 0 => fun _ _ => none
  | n + 1 => fun l1 st => pif (8 ≤ l1) (some st) (x9_walks_10 (x9_walks_2 n) fuel l1 0 st)
theorem x9_walks_2_z  (l1 : Int32) (st : RS) : x9_walks_2  0 l1 st = none := rfl
theorem x9_walks_2_s  (n : Nat) (l1 : Int32) (st : RS) : x9_walks_2  (n + 1) l1 st = pif (8 ≤ l1) (some st) (x9_walks_10 (x9_walks_2 n) fuel l1 0 st) := rfl
noncomputable def x9_walks  (st : RS) : Option (RS) := x9_walks_2  fuel 0 st
def wq_X9_walks : List Cond := .code yX9_walks cX9_walks 7 none :: (([.fieldLink RX9 126 "RecordBenchModel" "why" "[I", .fieldLink RX9 129 "RecordBenchModel" "byNumber" "[I", .fieldLink RX9 7 "RecordBenchModel" "told" "[Z", .methodLink RX9 246 yX9_has, .instanceMethod yX9_has, .selects RX9 yX9_has yX9_has, .initialized RX9, .methodLink RX9 371 yX9_whyOf, .instanceMethod yX9_whyOf, .selects RX9 yX9_whyOf yX9_whyOf, .methodLink RX9 350 yX9_place, .static yX9_place, .code yX9_has cX9_has 3 (some .boolean), .fieldLink RX9 36 "RecordBenchModel" "isThere" "[Z", .fieldLink RX9 13 "RecordBenchModel" "kind" "[I", .code yX9_whyOf cX9_whyOf 6 (some .int), .methodLink RX9 364 yX9_isMated, .instanceMethod yX9_isMated, .selects RX9 yX9_isMated yX9_isMated, .methodLink RX9 346 yX9_sortOf, .instanceMethod yX9_sortOf, .selects RX9 yX9_sortOf yX9_sortOf, .methodLink RX9 367 yX9_withinOf, .instanceMethod yX9_withinOf, .selects RX9 yX9_withinOf yX9_withinOf, .methodLink RX9 354 yX9_isOther, .instanceMethod yX9_isOther, .selects RX9 yX9_isOther yX9_isOther, .methodLink RX9 358 yX9_isNarrower, .instanceMethod yX9_isNarrower, .selects RX9 yX9_isNarrower yX9_isNarrower, .methodLink RX9 361 yX9_differs, .instanceMethod yX9_differs, .selects RX9 yX9_differs yX9_differs, .code yX9_isMated cX9_isMated 5 (some .boolean), .fieldLink RX9 17 "RecordBenchModel" "group" "[I", .code yX9_sortOf cX9_sortOf 4 (some .int), .code yX9_withinOf cX9_withinOf 11 (some .int), .fieldLink RX9 20 "RecordBenchModel" "inner" "[I", .code yX9_place cX9_place 4 (some .int), .code yX9_isOther cX9_isOther 4 (some .boolean), .code yX9_isNarrower cX9_isNarrower 4 (some .boolean), .code yX9_differs cX9_differs 8 (some .boolean), .fieldLink RX9 30 "RecordBenchModel" "plain" "[J", .fieldLink RX9 33 "RecordBenchModel" "plainText" "[I"] : List Cond) ++ wsX90)
theorem gs_wq_X9_walks_wsX90 : GoodIn wq_X9_walks wsX90 := fun w h => ⟨List.mem_cons_of_mem _ (List.mem_append_right _ h), (gt_wsX90 w h).2⟩
set_option maxRecDepth 20000 in
theorem gq_X9_walks_X9_has_246 : GoodIn wq_X9_walks (wsV RX9 246 RX9 yX9_has wq_X9_has) := goodIn_app (goodIn_r _ [4, 5, 6, 7] rfl rfl) (goodIn_ca (goodIn_r _ [13, 14, 15] rfl rfl) gs_wq_X9_walks_wsX90)
set_option maxRecDepth 20000 in
theorem gq_X9_walks_X9_whyOf_371 : GoodIn wq_X9_walks (wsV RX9 371 RX9 yX9_whyOf wq_X9_whyOf) := goodIn_app (goodIn_r _ [8, 9, 10, 7] rfl rfl) (goodIn_ca (goodIn_r _ [16, 17, 18, 19, 7, 20, 21, 22, 23, 24, 25, 26, 27, 28, 29, 30, 31, 32, 33, 34, 35, 36, 4, 5, 6, 13, 14, 15, 37, 38, 39, 1, 11, 12, 40, 41, 42, 43, 44, 45] rfl rfl) gs_wq_X9_walks_wsX90)
set_option maxRecDepth 20000 in
theorem gq_X9_walks_X9_place_350 : GoodIn wq_X9_walks (wsS RX9 350 yX9_place wq_X9_place) := goodIn_app (goodIn_r _ [11, 12, 7] rfl rfl) (goodIn_r _ [40] rfl rfl)
set_option maxHeartbeats 4000000 in
set_option maxRecDepth 100000 in
theorem c_X9_walks (l : Launch) (dC : Nat → ClassId) (dI : Nat → Nat → Nat) (h0 : Nat) (ar : Nat → Nat) (ca : Nat → ClassId)  (st st' : RS) (hf : x9_walks  st = some st') (sz : Nat) : Met l yX9_walks wq_X9_walks ({ frames := 3, cells := 0, slots := 0, locals := 90 }) (va_Pc [.ref h0] (Pr (dC, dI) (rT ca) [] (RW h0 ar ca st) sz)) (va_Qv (fun (_ : Unit) => True) (Bq (dC, dI) (fun _ => RW h0 ar ca st') (fun _ => []) (va_A (RW h0 ar ca st) sz)) (va_A (RW h0 ar ca st) sz)) 0 0 (va_A (RW h0 ar ca st) sz) := by
  refine Met.ofW (cc := cX9_walks) (maxL := 7) (ret := none) (by decide) rfl ?_
  intro p e s m args below meth c s₁ B hml hv
  obtain ⟨rfl, hsz, hP, hK, hD0, hN, hZ, hR⟩ := hv
  have hx := B.exec
  have hb := B.bytes
  have hr := B.returns
  have hts := atoms_spec (ws := wq_X9_walks) B.pre
  have hown : s.vm.findClass RX9 = some m.cls := findClass_of_methodNamed B.named
  have iRX9 : ∀ w ∈ u_ws RX9 TX9 60, w ∈ wq_X9_walks := fun w h => List.mem_cons_of_mem _ (List.mem_append_right _ h)
  subst hsz
  have hp : Rp (dC, dI) h0 ar ca (va_A (RW h0 ar ca st) s.heap.size) s.heap st s.heap [] := ⟨hP, hD0.self, va_S.rf⟩
  generalize hAe : va_A (RW h0 ar ca st) s.heap.size = A at hp hZ ⊢
  have hA : ∀ q : Nat, s.heap.size ≤ q → A q := fun q h => by rw [← hAe]; exact Or.inr h
  have hl := lv_entry ([.ref h0]) (n := 7) (Nat.le_of_ble_eq_true rfl)
  rw [lg_entry_eq]
  generalize (lg_sl ([.ref h0]) ++ List.replicate (7 - (lg_sl ([.ref h0])).length) Slot.unset).toArray = ls at hl ⊢
  have hl : lv_has ls 7 [(0, .ref h0)] := hl
  refine W_lp (fun n2 (u : Int32 × RS) H locs ls => match u with | (l1, st) => x9_walks_2 n2 l1 st = some st' ∧ Rp (dC, dI) h0 ar ca A s.heap st H locs ∧ lv_has ls 7 [(0, .ref h0), (1, .int l1)]) (fun (u : Int32 × RS) ls => match u with | (l1, st) => F0 m 2 ls []) ?_ ?_ (fun J2 => ?_)
  · intro u H locs ls hu
    obtain ⟨l1, st⟩ := u
    obtain ⟨hf, hp, hl⟩ := hu
    rw [x9_walks_2_z] at hf
    cases hf
  · intro n2 ih2 u H locs ls hu
    obtain ⟨l1, st⟩ := u
    obtain ⟨hf, hp, hl⟩ := hu
    show W p l e _ s m _ below meth c _ _ _ _ _ (F0 m 2 ls [])
    refine W_lp (fun n10 (u : Int32 × Int32 × RS) H locs ls => match u with | (l1, l2, st) => x9_walks_10 (x9_walks_2 n2) n10 l1 l2 st = some st' ∧ Rp (dC, dI) h0 ar ca A s.heap st H locs ∧ lv_has ls 7 [(0, .ref h0), (1, .int l1), (2, .int l2)]) (fun (u : Int32 × Int32 × RS) ls => match u with | (l1, l2, st) => F0 m 10 ls []) ?_ ?_ (fun J10 => ?_)
    · intro u H locs ls hu
      obtain ⟨l1, l2, st⟩ := u
      obtain ⟨hf, hp, hl⟩ := hu
      rw [x9_walks_10_z] at hf
      cases hf
    · intro n10 ih10 u H locs ls hu
      obtain ⟨l1, l2, st⟩ := u
      obtain ⟨hf, hp, hl⟩ := hu
      show W p l e _ s m _ below meth c _ _ _ _ _ (F0 m 10 ls [])
      refine W_lp (fun n18 (u : Int32 × Int32 × Int32 × RS) H locs ls => match u with | (l1, l2, l3, st) => x9_walks_18 (x9_walks_2 n2) (x9_walks_10 (x9_walks_2 n2) n10) n18 l1 l2 l3 st = some st' ∧ Rp (dC, dI) h0 ar ca A s.heap st H locs ∧ lv_has ls 7 [(0, .ref h0), (1, .int l1), (2, .int l2), (3, .int l3)]) (fun (u : Int32 × Int32 × Int32 × RS) ls => match u with | (l1, l2, l3, st) => F0 m 18 ls []) ?_ ?_ (fun J18 => ?_)
      · intro u H locs ls hu
        obtain ⟨l1, l2, l3, st⟩ := u
        obtain ⟨hf, hp, hl⟩ := hu
        rw [x9_walks_18_z] at hf
        cases hf
      · intro n18 ih18 u H locs ls hu
        obtain ⟨l1, l2, l3, st⟩ := u
        obtain ⟨hf, hp, hl⟩ := hu
        show W p l e _ s m _ below meth c _ _ _ _ _ (F0 m 18 ls [])
        refine W_lp (fun n27 (u : Int32 × Int32 × Int32 × Int32 × RS) H locs ls => match u with | (l1, l2, l3, l4, st) => x9_walks_27 (x9_walks_2 n2) (x9_walks_10 (x9_walks_2 n2) n10) (x9_walks_18 (x9_walks_2 n2) (x9_walks_10 (x9_walks_2 n2) n10) n18) n27 l1 l2 l3 l4 st = some st' ∧ Rp (dC, dI) h0 ar ca A s.heap st H locs ∧ lv_has ls 7 [(0, .ref h0), (1, .int l1), (2, .int l2), (3, .int l3), (4, .int l4)]) (fun (u : Int32 × Int32 × Int32 × Int32 × RS) ls => match u with | (l1, l2, l3, l4, st) => F0 m 27 ls []) ?_ ?_ (fun J27 => ?_)
        · intro u H locs ls hu
          obtain ⟨l1, l2, l3, l4, st⟩ := u
          obtain ⟨hf, hp, hl⟩ := hu
          rw [x9_walks_27_z] at hf
          cases hf
        · intro n27 ih27 u H locs ls hu
          obtain ⟨l1, l2, l3, l4, st⟩ := u
          obtain ⟨hf, hp, hl⟩ := hu
          show W p l e _ s m _ below meth c _ _ _ _ _ (F0 m 27 ls [])
          refine W_lp (fun n92 (u : Int32 × Int32 × Int32 × Int32 × Int32 × Int32 × RS) H locs ls => match u with | (l1, l2, l3, l4, l5, l6, st) => x9_walks_92 (x9_walks_2 n2) (x9_walks_10 (x9_walks_2 n2) n10) (x9_walks_18 (x9_walks_2 n2) (x9_walks_10 (x9_walks_2 n2) n10) n18) (x9_walks_27 (x9_walks_2 n2) (x9_walks_10 (x9_walks_2 n2) n10) (x9_walks_18 (x9_walks_2 n2) (x9_walks_10 (x9_walks_2 n2) n10) n18) n27) n92 l1 l2 l3 l4 l5 l6 st = some st' ∧ Rp (dC, dI) h0 ar ca A s.heap st H locs ∧ lv_has ls 7 [(0, .ref h0), (1, .int l1), (2, .int l2), (3, .int l3), (4, .int l4), (5, .int l5), (6, .int l6)]) (fun (u : Int32 × Int32 × Int32 × Int32 × Int32 × Int32 × RS) ls => match u with | (l1, l2, l3, l4, l5, l6, st) => F0 m 92 ls []) ?_ ?_ (fun J92 => ?_)
          · intro u H locs ls hu
            obtain ⟨l1, l2, l3, l4, l5, l6, st⟩ := u
            obtain ⟨hf, hp, hl⟩ := hu
            rw [x9_walks_92_z] at hf
            cases hf
          · intro n92 ih92 u H locs ls hu
            obtain ⟨l1, l2, l3, l4, l5, l6, st⟩ := u
            obtain ⟨hf, hp, hl⟩ := hu
            show W p l e _ s m _ below meth c _ _ _ _ _ (F0 m 92 ls [])
            refine W_blk (fun (u : Int32 × Int32 × Int32 × Int32 × Int32 × Int32 × Int32 × Int32 × RS) H locs ls => match u with | (l1, l2, l3, l4, l5, l6, s0, s1, st) => x9_walks_162 (x9_walks_2 n2) (x9_walks_10 (x9_walks_2 n2) n10) (x9_walks_18 (x9_walks_2 n2) (x9_walks_10 (x9_walks_2 n2) n10) n18) (x9_walks_27 (x9_walks_2 n2) (x9_walks_10 (x9_walks_2 n2) n10) (x9_walks_18 (x9_walks_2 n2) (x9_walks_10 (x9_walks_2 n2) n10) n18) n27) (x9_walks_92 (x9_walks_2 n2) (x9_walks_10 (x9_walks_2 n2) n10) (x9_walks_18 (x9_walks_2 n2) (x9_walks_10 (x9_walks_2 n2) n10) n18) (x9_walks_27 (x9_walks_2 n2) (x9_walks_10 (x9_walks_2 n2) n10) (x9_walks_18 (x9_walks_2 n2) (x9_walks_10 (x9_walks_2 n2) n10) n18) n27) n92) l1 l2 l3 l4 l5 l6 s0 s1 st = some st' ∧ Rp (dC, dI) h0 ar ca A s.heap st H locs ∧ lv_has ls 7 [(0, .ref h0), (1, .int l1), (2, .int l2), (3, .int l3), (4, .int l4), (5, .int l5), (6, .int l6)]) (fun (u : Int32 × Int32 × Int32 × Int32 × Int32 × Int32 × Int32 × Int32 × RS) ls => match u with | (l1, l2, l3, l4, l5, l6, s0, s1, st) => F0 m 162 ls [.int s0, .int s1, .ref (ar 58)]) ?_ (fun J162 => ?_)
            · intro u H locs ls hu
              obtain ⟨l1, l2, l3, l4, l5, l6, s0, s1, st⟩ := u
              obtain ⟨hf, hp, hl⟩ := hu
              show W p l e _ s m _ below meth c _ _ _ _ _ (F0 m 162 ls [.int s0, .int s1, .ref (ar 58)])
              unfold x9_walks_162 at hf
              obtain ⟨g_1, hf⟩ := gd_some hf
              refine r_si (n := 1024) hx hb hK hp 28 58 rfl rfl rfl g_1 dX9_walks_162 (fun H locs hp => ?_)
              obtain ⟨st_2, est_2, hf⟩ := nam_some hf
              rw [← est_2] at hp
              obtain ⟨v_3, ev_3, hf⟩ := nam_some hf
              refine lv_iinc (v := v_3) (lv' := [(6, .int v_3), (0, .ref h0), (1, .int l1), (2, .int l2), (3, .int l3), (4, .int l4), (5, .int l5)]) hx hb dX9_walks_163 hl (k := 6) rfl ev_3.symm (by decide) rfl (fun ls hl => ?_)
              refine lv_goto (tgt := 92) hx hb dX9_walks_166 (by decide) ?_
              exact ih92 (l1, l2, l3, l4, l5, v_3, st_2) _ _ _ ⟨hf, hp, (lv_sub hl [1, 2, 3, 4, 5, 6, 0] rfl)⟩
            rw [x9_walks_92_s] at hf
            refine lv_iload hx hb dX9_walks_92 (lv_at hl 6 rfl) ?_
            refine lv_bipush (v := 31) hx hb dX9_walks_94 (by decide) ?_
            refine lv_icmp_ge (tgt := 169) hx hb dX9_walks_96 (by decide) (fun c_4 => ?_) (fun c_4 => ?_)
            · have hf := pif_t c_4 hf
              obtain ⟨v_5, ev_5, hf⟩ := nam_some hf
              refine lv_iinc (v := v_5) (lv' := [(4, .int v_5), (0, .ref h0), (1, .int l1), (2, .int l2), (3, .int l3), (5, .int l5), (6, .int l6)]) hx hb dX9_walks_169 hl (k := 4) rfl ev_5.symm (by decide) rfl (fun ls hl => ?_)
              refine lv_goto (tgt := 27) hx hb dX9_walks_172 (by decide) ?_
              exact ih27 (l1, l2, l3, v_5, st) _ _ _ ⟨hf, hp, (lv_sub hl [1, 2, 3, 4, 0] rfl)⟩
            · have hf := pif_f c_4 hf
              refine lv_aload_n hx hb dX9_walks_99 rfl (lv_at hl 0 rfl) ?_
              refine r_ga hx hb hts iRX9 hown hK hp 57 (by decide) (by decide) (hts (.fieldLink RX9 126 "RecordBenchModel" "why" "[I") (by decide +kernel)) dX9_walks_100 ?_
              refine lv_iload hx hb dX9_walks_103 (lv_at hl 5 rfl) ?_
              obtain ⟨g_6, hf⟩ := gd_some hf
              refine r_ai (n := 1024) hx hb hK hp 27 57 rfl rfl rfl g_6 dX9_walks_105 ?_
              refine lv_if_ne (tgt := 169) hx hb dX9_walks_106 (by decide) (fun c_7 => ?_) (fun c_7 => ?_)
              · have hf := pif_f c_7 hf
                obtain ⟨v_8, ev_8, hf⟩ := nam_some hf
                refine lv_iinc (v := v_8) (lv' := [(4, .int v_8), (0, .ref h0), (1, .int l1), (2, .int l2), (3, .int l3), (5, .int l5), (6, .int l6)]) hx hb dX9_walks_169 hl (k := 4) rfl ev_8.symm (by decide) rfl (fun ls hl => ?_)
                refine lv_goto (tgt := 27) hx hb dX9_walks_172 (by decide) ?_
                exact ih27 (l1, l2, l3, v_8, st) _ _ _ ⟨hf, hp, (lv_sub hl [1, 2, 3, 4, 0] rfl)⟩
              · have hf := pif_t c_7 hf
                refine lv_aload_n hx hb dX9_walks_109 rfl (lv_at hl 0 rfl) ?_
                refine lv_iload_n hx hb dX9_walks_110 rfl (lv_at hl 1 rfl) ?_
                refine lv_iload hx hb dX9_walks_111 (lv_at hl 6 rfl) ?_
                obtain ⟨r_11, st_9, hc_10, hf⟩ := bnd_some hf
                refine r_ci hp hA (va_runV (As := [.int l1, .int l6]) (rest := []) ⟨hx, hb, hml, hown, hts⟩ (c_X9_has l dC dI h0 ar ca l1 l6 _ _ _ hc_10 _) (cwV 2 hts gq_X9_walks_X9_has_246 rfl rfl rfl (by decide +kernel) ⟨Nat.le_of_ble_eq_true rfl, Nat.le_of_ble_eq_true rfl⟩) ⟨Pr.blind _, va_recv hK hp.1 (ci := 11) (q0 := 0) rfl rfl, r_pre hp hK hN hZ hA⟩ rfl rfl hl.1 rfl (lv_room (Nat.le_of_ble_eq_true rfl)) dX9_walks_113 ⟨Nat.le_of_ble_eq_true rfl, Nat.le_of_ble_eq_true rfl⟩) (fun H locs hp => ?_)
                refine lv_if_ne (tgt := 122) hx hb dX9_walks_116 (by decide) (fun c_12 => ?_) (fun c_12 => ?_)
                · have hf := pif_f c_12 hf
                  refine lv_aload_n hx hb dX9_walks_122 rfl (lv_at hl 0 rfl) ?_
                  refine r_ga hx hb hts iRX9 hown hK hp 57 (by decide) (by decide) (hts (.fieldLink RX9 126 "RecordBenchModel" "why" "[I") (by decide +kernel)) dX9_walks_123 ?_
                  refine lv_iload hx hb dX9_walks_126 (lv_at hl 5 rfl) ?_
                  refine lv_aload_n hx hb dX9_walks_128 rfl (lv_at hl 0 rfl) ?_
                  refine lv_iload_n hx hb dX9_walks_129 rfl (lv_at hl 1 rfl) ?_
                  refine lv_iload_n hx hb dX9_walks_130 rfl (lv_at hl 2 rfl) ?_
                  refine lv_iload_n hx hb dX9_walks_131 rfl (lv_at hl 3 rfl) ?_
                  refine lv_iload hx hb dX9_walks_132 (lv_at hl 6 rfl) ?_
                  refine lv_iload hx hb dX9_walks_134 (lv_at hl 4 rfl) ?_
                  obtain ⟨r_15, st_13, hc_14, hf⟩ := bnd_some hf
                  refine r_ci hp hA (va_runV (As := [.int l1, .int l2, .int l3, .int l6, .int l4]) (rest := [.int l5, .ref (ar 57)]) ⟨hx, hb, hml, hown, hts⟩ (c_X9_whyOf l dC dI h0 ar ca l1 l2 l3 l6 l4 _ _ _ hc_14 _) (cwV 5 hts gq_X9_walks_X9_whyOf_371 rfl rfl rfl (by decide +kernel) ⟨Nat.le_of_ble_eq_true rfl, Nat.le_of_ble_eq_true rfl⟩) ⟨Pr.blind _, va_recv hK hp.1 (ci := 11) (q0 := 0) rfl rfl, r_pre hp hK hN hZ hA⟩ rfl rfl hl.1 rfl (lv_room (Nat.le_of_ble_eq_true rfl)) dX9_walks_136 ⟨Nat.le_of_ble_eq_true rfl, Nat.le_of_ble_eq_true rfl⟩) (fun H locs hp => ?_)
                  obtain ⟨g_16, hf⟩ := gd_some hf
                  refine r_si (n := 1024) hx hb hK hp 27 57 rfl rfl rfl g_16 dX9_walks_139 (fun H locs hp => ?_)
                  obtain ⟨st_17, est_17, hf⟩ := nam_some hf
                  rw [← est_17] at hp
                  refine lv_aload_n hx hb dX9_walks_140 rfl (lv_at hl 0 rfl) ?_
                  refine r_ga hx hb hts iRX9 hown hK hp 58 (by decide) (by decide) (hts (.fieldLink RX9 129 "RecordBenchModel" "byNumber" "[I") (by decide +kernel)) dX9_walks_141 ?_
                  refine lv_iload hx hb dX9_walks_144 (lv_at hl 5 rfl) ?_
                  refine lv_aload_n hx hb dX9_walks_146 rfl (lv_at hl 0 rfl) ?_
                  refine r_ga hx hb hts iRX9 hown hK hp 57 (by decide) (by decide) (hts (.fieldLink RX9 126 "RecordBenchModel" "why" "[I") (by decide +kernel)) dX9_walks_147 ?_
                  refine lv_iload hx hb dX9_walks_150 (lv_at hl 5 rfl) ?_
                  obtain ⟨g_18, hf⟩ := gd_some hf
                  refine r_ai (n := 1024) hx hb hK hp 27 57 rfl rfl rfl g_18 dX9_walks_152 ?_
                  refine lv_if_ne (tgt := 160) hx hb dX9_walks_153 (by decide) (fun c_19 => ?_) (fun c_19 => ?_)
                  · have hf := pif_f c_19 hf
                    refine lv_iload hx hb dX9_walks_160 (lv_at hl 6 rfl) ?_
                    exact J162 (l1, l2, l3, l4, l5, l6, l6, l5, st_17) _ _ _ ⟨hf, hp, (lv_sub hl [0, 1, 2, 3, 4, 5, 6] rfl)⟩
                  · have hf := pif_t c_19 hf
                    refine lv_iconst (v := 0) hx hb dX9_walks_156 (by decide) ?_
                    refine lv_goto (tgt := 162) hx hb dX9_walks_157 (by decide) ?_
                    exact J162 (l1, l2, l3, l4, l5, l6, 0, l5, st_17) _ _ _ ⟨hf, hp, (lv_sub hl [0, 1, 2, 3, 4, 5, 6] rfl)⟩
                · have hf := pif_t c_12 hf
                  refine lv_goto (tgt := 163) hx hb dX9_walks_119 (by decide) ?_
                  obtain ⟨v_20, ev_20, hf⟩ := nam_some hf
                  refine lv_iinc (v := v_20) (lv' := [(6, .int v_20), (0, .ref h0), (1, .int l1), (2, .int l2), (3, .int l3), (4, .int l4), (5, .int l5)]) hx hb dX9_walks_163 hl (k := 6) rfl ev_20.symm (by decide) rfl (fun ls hl => ?_)
                  refine lv_goto (tgt := 92) hx hb dX9_walks_166 (by decide) ?_
                  exact ih92 (l1, l2, l3, l4, l5, v_20, st_9) _ _ _ ⟨hf, hp, (lv_sub hl [1, 2, 3, 4, 5, 6, 0] rfl)⟩
          rw [x9_walks_27_s] at hf
          refine lv_iload hx hb dX9_walks_27 (lv_at hl 4 rfl) ?_
          refine lv_iconst (v := 2) hx hb dX9_walks_29 (by decide) ?_
          refine lv_icmp_ge (tgt := 175) hx hb dX9_walks_30 (by decide) (fun c_21 => ?_) (fun c_21 => ?_)
          · have hf := pif_t c_21 hf
            obtain ⟨v_22, ev_22, hf⟩ := nam_some hf
            refine lv_iinc (v := v_22) (lv' := [(3, .int v_22), (0, .ref h0), (1, .int l1), (2, .int l2), (4, .int l4)]) hx hb dX9_walks_175 hl (k := 3) rfl ev_22.symm (by decide) rfl (fun ls hl => ?_)
            refine lv_goto (tgt := 18) hx hb dX9_walks_178 (by decide) ?_
            exact ih18 (l1, l2, v_22, st) _ _ _ ⟨hf, hp, (lv_sub hl [1, 2, 3, 0] rfl)⟩
          · have hf := pif_f c_21 hf
            refine lv_iload_n hx hb dX9_walks_33 rfl (lv_at hl 1 rfl) ?_
            refine lv_iload_n hx hb dX9_walks_34 rfl (lv_at hl 2 rfl) ?_
            refine lv_iload_n hx hb dX9_walks_35 rfl (lv_at hl 3 rfl) ?_
            refine lv_iload hx hb dX9_walks_36 (lv_at hl 4 rfl) ?_
            obtain ⟨r_25, st_23, hc_24, hf⟩ := bnd_some hf
            refine r_ci hp hA (va_runS (As := [.int l1, .int l2, .int l3, .int l4]) (rest := []) ⟨hx, hb, hml, hown, hts⟩ (c_X9_place l dC dI h0 ar ca l1 l2 l3 l4 _ _ _ hc_24 _) (cwS 4 hts gq_X9_walks_X9_place_350 rfl rfl rfl (by decide +kernel) ⟨Nat.le_of_ble_eq_true rfl, Nat.le_of_ble_eq_true rfl⟩) ⟨Pr.blind _, r_pre hp hK hN hZ hA⟩ rfl rfl hl.1 rfl (lv_room (Nat.le_of_ble_eq_true rfl)) dX9_walks_38 ⟨Nat.le_of_ble_eq_true rfl, Nat.le_of_ble_eq_true rfl⟩) (fun H locs hp => ?_)
            refine lv_istore (lv' := [(5, .int r_25), (0, .ref h0), (1, .int l1), (2, .int l2), (3, .int l3), (4, .int l4)]) hx hb dX9_walks_41 hl (by decide) rfl (fun ls hl => ?_)
            refine lv_aload_n hx hb dX9_walks_43 rfl (lv_at hl 1 rfl) ?_
            refine r_ga hx hb hts iRX9 hown hK hp 57 (by decide) (by decide) (hts (.fieldLink RX9 126 "RecordBenchModel" "why" "[I") (by decide +kernel)) dX9_walks_44 ?_
            refine lv_iload hx hb dX9_walks_47 (lv_at hl 0 rfl) ?_
            refine lv_iconst (v := 0) hx hb dX9_walks_49 (by decide) ?_
            obtain ⟨g_26, hf⟩ := gd_some hf
            refine r_si (n := 1024) hx hb hK hp 27 57 rfl rfl rfl g_26 dX9_walks_50 (fun H locs hp => ?_)
            obtain ⟨st_27, est_27, hf⟩ := nam_some hf
            rw [← est_27] at hp
            refine lv_aload_n hx hb dX9_walks_51 rfl (lv_at hl 1 rfl) ?_
            refine r_ga hx hb hts iRX9 hown hK hp 58 (by decide) (by decide) (hts (.fieldLink RX9 129 "RecordBenchModel" "byNumber" "[I") (by decide +kernel)) dX9_walks_52 ?_
            refine lv_iload hx hb dX9_walks_55 (lv_at hl 0 rfl) ?_
            refine lv_iconst (v := 0) hx hb dX9_walks_57 (by decide) ?_
            obtain ⟨g_28, hf⟩ := gd_some hf
            refine r_si (n := 1024) hx hb hK hp 28 58 rfl rfl rfl g_28 dX9_walks_58 (fun H locs hp => ?_)
            obtain ⟨st_29, est_29, hf⟩ := nam_some hf
            rw [← est_29] at hp
            refine lv_aload_n hx hb dX9_walks_59 rfl (lv_at hl 1 rfl) ?_
            refine r_ga hx hb hts iRX9 hown hK hp 0 (by decide) (by decide) (hts (.fieldLink RX9 7 "RecordBenchModel" "told" "[Z") (by decide +kernel)) dX9_walks_60 ?_
            refine lv_iload_n hx hb dX9_walks_63 rfl (lv_at hl 2 rfl) ?_
            obtain ⟨g_30, hf⟩ := gd_some hf
            refine r_az (n := 8) hx hb hK hp 0 0 rfl rfl rfl g_30 dX9_walks_64 ?_
            refine lv_if_eq (tgt := 169) hx hb dX9_walks_65 (by decide) (fun c_31 => ?_) (fun c_31 => ?_)
            · have hf := pif_t c_31 hf
              obtain ⟨v_32, ev_32, hf⟩ := nam_some hf
              refine lv_iinc (v := v_32) (lv' := [(4, .int v_32), (5, .int r_25), (0, .ref h0), (1, .int l1), (2, .int l2), (3, .int l3)]) hx hb dX9_walks_169 hl (k := 5) rfl ev_32.symm (by decide) rfl (fun ls hl => ?_)
              refine lv_goto (tgt := 27) hx hb dX9_walks_172 (by decide) ?_
              exact ih27 (l1, l2, l3, v_32, st_29) _ _ _ ⟨hf, hp, (lv_sub hl [2, 3, 4, 5, 0] rfl)⟩
            · have hf := pif_f c_31 hf
              refine lv_aload_n hx hb dX9_walks_68 rfl (lv_at hl 1 rfl) ?_
              refine r_ga hx hb hts iRX9 hown hK hp 0 (by decide) (by decide) (hts (.fieldLink RX9 7 "RecordBenchModel" "told" "[Z") (by decide +kernel)) dX9_walks_69 ?_
              refine lv_iload_n hx hb dX9_walks_72 rfl (lv_at hl 3 rfl) ?_
              obtain ⟨g_33, hf⟩ := gd_some hf
              refine r_az (n := 8) hx hb hK hp 0 0 rfl rfl rfl g_33 dX9_walks_73 ?_
              refine lv_if_eq (tgt := 169) hx hb dX9_walks_74 (by decide) (fun c_34 => ?_) (fun c_34 => ?_)
              · have hf := pif_t c_34 hf
                obtain ⟨v_35, ev_35, hf⟩ := nam_some hf
                refine lv_iinc (v := v_35) (lv' := [(4, .int v_35), (5, .int r_25), (0, .ref h0), (1, .int l1), (2, .int l2), (3, .int l3)]) hx hb dX9_walks_169 hl (k := 5) rfl ev_35.symm (by decide) rfl (fun ls hl => ?_)
                refine lv_goto (tgt := 27) hx hb dX9_walks_172 (by decide) ?_
                exact ih27 (l1, l2, l3, v_35, st_29) _ _ _ ⟨hf, hp, (lv_sub hl [2, 3, 4, 5, 0] rfl)⟩
              · have hf := pif_f c_34 hf
                refine lv_aload_n hx hb dX9_walks_77 rfl (lv_at hl 1 rfl) ?_
                refine r_ga hx hb hts iRX9 hown hK hp 0 (by decide) (by decide) (hts (.fieldLink RX9 7 "RecordBenchModel" "told" "[Z") (by decide +kernel)) dX9_walks_78 ?_
                refine lv_iload_n hx hb dX9_walks_81 rfl (lv_at hl 4 rfl) ?_
                obtain ⟨g_36, hf⟩ := gd_some hf
                refine r_az (n := 8) hx hb hK hp 0 0 rfl rfl rfl g_36 dX9_walks_82 ?_
                refine lv_if_ne (tgt := 89) hx hb dX9_walks_83 (by decide) (fun c_37 => ?_) (fun c_37 => ?_)
                · have hf := pif_f c_37 hf
                  refine lv_iconst (v := 1) hx hb dX9_walks_89 (by decide) ?_
                  refine lv_istore (lv' := [(6, .int 1), (5, .int r_25), (0, .ref h0), (1, .int l1), (2, .int l2), (3, .int l3), (4, .int l4)]) hx hb dX9_walks_90 hl (by decide) rfl (fun ls hl => ?_)
                  exact J92 fuel (l1, l2, l3, l4, r_25, 1, st_29) _ _ _ ⟨hf, hp, (lv_sub hl [2, 3, 4, 5, 6, 1, 0] rfl)⟩
                · have hf := pif_t c_37 hf
                  refine lv_goto (tgt := 169) hx hb dX9_walks_86 (by decide) ?_
                  obtain ⟨v_38, ev_38, hf⟩ := nam_some hf
                  refine lv_iinc (v := v_38) (lv' := [(4, .int v_38), (5, .int r_25), (0, .ref h0), (1, .int l1), (2, .int l2), (3, .int l3)]) hx hb dX9_walks_169 hl (k := 5) rfl ev_38.symm (by decide) rfl (fun ls hl => ?_)
                  refine lv_goto (tgt := 27) hx hb dX9_walks_172 (by decide) ?_
                  exact ih27 (l1, l2, l3, v_38, st_29) _ _ _ ⟨hf, hp, (lv_sub hl [2, 3, 4, 5, 0] rfl)⟩
        rw [x9_walks_18_s] at hf
        refine lv_iload_n hx hb dX9_walks_18 rfl (lv_at hl 3 rfl) ?_
        refine lv_bipush (v := 8) hx hb dX9_walks_19 (by decide) ?_
        refine lv_icmp_ge (tgt := 181) hx hb dX9_walks_21 (by decide) (fun c_39 => ?_) (fun c_39 => ?_)
        · have hf := pif_t c_39 hf
          obtain ⟨v_40, ev_40, hf⟩ := nam_some hf
          refine lv_iinc (v := v_40) (lv' := [(2, .int v_40), (0, .ref h0), (1, .int l1), (3, .int l3)]) hx hb dX9_walks_181 hl (k := 2) rfl ev_40.symm (by decide) rfl (fun ls hl => ?_)
          refine lv_goto (tgt := 10) hx hb dX9_walks_184 (by decide) ?_
          exact ih10 (l1, v_40, st) _ _ _ ⟨hf, hp, (lv_sub hl [1, 2, 0] rfl)⟩
        · have hf := pif_f c_39 hf
          refine lv_iconst (v := 0) hx hb dX9_walks_24 (by decide) ?_
          refine lv_istore (lv' := [(4, .int 0), (0, .ref h0), (1, .int l1), (2, .int l2), (3, .int l3)]) hx hb dX9_walks_25 hl (by decide) rfl (fun ls hl => ?_)
          exact J27 fuel (l1, l2, l3, 0, st) _ _ _ ⟨hf, hp, (lv_sub hl [1, 2, 3, 4, 0] rfl)⟩
      rw [x9_walks_10_s] at hf
      refine lv_iload_n hx hb dX9_walks_10 rfl (lv_at hl 2 rfl) ?_
      refine lv_bipush (v := 8) hx hb dX9_walks_11 (by decide) ?_
      refine lv_icmp_ge (tgt := 187) hx hb dX9_walks_13 (by decide) (fun c_41 => ?_) (fun c_41 => ?_)
      · have hf := pif_t c_41 hf
        obtain ⟨v_42, ev_42, hf⟩ := nam_some hf
        refine lv_iinc (v := v_42) (lv' := [(1, .int v_42), (0, .ref h0), (2, .int l2)]) hx hb dX9_walks_187 hl (k := 1) rfl ev_42.symm (by decide) rfl (fun ls hl => ?_)
        refine lv_goto (tgt := 2) hx hb dX9_walks_190 (by decide) ?_
        exact ih2 (v_42, st) _ _ _ ⟨hf, hp, (lv_sub hl [1, 0] rfl)⟩
      · have hf := pif_f c_41 hf
        refine lv_iconst (v := 0) hx hb dX9_walks_16 (by decide) ?_
        refine lv_istore_n (lv' := [(3, .int 0), (0, .ref h0), (1, .int l1), (2, .int l2)]) hx hb dX9_walks_17 rfl hl (by decide) rfl (fun ls hl => ?_)
        exact J18 fuel (l1, l2, 0, st) _ _ _ ⟨hf, hp, (lv_sub hl [1, 2, 3, 0] rfl)⟩
    rw [x9_walks_2_s] at hf
    refine lv_iload_n hx hb dX9_walks_2 rfl (lv_at hl 1 rfl) ?_
    refine lv_bipush (v := 8) hx hb dX9_walks_3 (by decide) ?_
    refine lv_icmp_ge (tgt := 193) hx hb dX9_walks_5 (by decide) (fun c_43 => ?_) (fun c_43 => ?_)
    · have hf := pif_t c_43 hf
      have e2 := Option.some.inj hf
      exact W.vret hx hb hr (fun t ht hW => ⟨⟨(), rfl, trivial, Rp.end e2 hp hK ht hW⟩, hp.2.2.F ht⟩) hp.2.2.2.2 dX9_walks_193
    · have hf := pif_f c_43 hf
      refine lv_iconst (v := 0) hx hb dX9_walks_8 (by decide) ?_
      refine lv_istore_n (lv' := [(2, .int 0), (0, .ref h0), (1, .int l1)]) hx hb dX9_walks_9 rfl hl (by decide) rfl (fun ls hl => ?_)
      exact J10 fuel (l1, 0, st) _ _ _ ⟨hf, hp, (lv_sub hl [1, 2, 0] rfl)⟩
  unfold x9_walks at hf
  refine lv_iconst (v := 0) hx hb dX9_walks_0 (by decide) ?_
  refine lv_istore_n (lv' := [(1, .int 0), (0, .ref h0)]) hx hb dX9_walks_1 rfl hl (by decide) rfl (fun ls hl => ?_)
  exact J2 fuel (0, st) _ _ _ ⟨hf, hp, (lv_sub hl [1, 0] rfl)⟩
noncomputable def x9_walk (p0 : Int32) (p1 : Int32) (p2 : Int32) (st : RS) : Option (Int32 × RS) := bnd (x9_isMake p0 st) (fun r_3 st_1 => pif (r_3 = 0) (some (((-1) : Int32), st_1)) (bnd (x9_isMake p1 st_1) (fun r_7 st_5 => pif (r_7 = 0) (some (((-1) : Int32), st_5)) (bnd (x9_isMake p2 st_5) (fun r_11 st_9 => pif (r_11 = 0) (some (((-1) : Int32), st_9)) (bnv (x9_walks st_9) (fun st_13 => bnd (x9_place p0 p1 p2 0 st_13) (fun r_18 st_16 => gd (vp_in r_18 1024) (nam (sI st_16 59 (gF st_16 58 r_18.toNatClampNeg)) (fun st_20 => bnd (x9_place p0 p1 p2 0 st_20) (fun r_23 st_21 => gd (vp_in r_23 1024) (some (gF st_21 57 r_23.toNatClampNeg, st_21)))))))))))))
def wq_X9_walk : List Cond := .code yX9_walk cX9_walk 4 (some .int) :: (([.fieldLink RX9 129 "RecordBenchModel" "byNumber" "[I", .fieldLink RX9 377 "RecordBenchModel" "by" "I", .fieldLink RX9 126 "RecordBenchModel" "why" "[I", .methodLink RX9 239 yX9_isMake, .instanceMethod yX9_isMake, .selects RX9 yX9_isMake yX9_isMake, .initialized RX9, .methodLink RX9 374 yX9_walks, .instanceMethod yX9_walks, .selects RX9 yX9_walks yX9_walks, .methodLink RX9 350 yX9_place, .static yX9_place, .code yX9_isMake cX9_isMake 2 (some .boolean), .fieldLink RX9 7 "RecordBenchModel" "told" "[Z", .code yX9_walks cX9_walks 7 none, .methodLink RX9 246 yX9_has, .instanceMethod yX9_has, .selects RX9 yX9_has yX9_has, .methodLink RX9 371 yX9_whyOf, .instanceMethod yX9_whyOf, .selects RX9 yX9_whyOf yX9_whyOf, .code yX9_has cX9_has 3 (some .boolean), .fieldLink RX9 36 "RecordBenchModel" "isThere" "[Z", .fieldLink RX9 13 "RecordBenchModel" "kind" "[I", .code yX9_whyOf cX9_whyOf 6 (some .int), .methodLink RX9 364 yX9_isMated, .instanceMethod yX9_isMated, .selects RX9 yX9_isMated yX9_isMated, .methodLink RX9 346 yX9_sortOf, .instanceMethod yX9_sortOf, .selects RX9 yX9_sortOf yX9_sortOf, .methodLink RX9 367 yX9_withinOf, .instanceMethod yX9_withinOf, .selects RX9 yX9_withinOf yX9_withinOf, .methodLink RX9 354 yX9_isOther, .instanceMethod yX9_isOther, .selects RX9 yX9_isOther yX9_isOther, .methodLink RX9 358 yX9_isNarrower, .instanceMethod yX9_isNarrower, .selects RX9 yX9_isNarrower yX9_isNarrower, .methodLink RX9 361 yX9_differs, .instanceMethod yX9_differs, .selects RX9 yX9_differs yX9_differs, .code yX9_isMated cX9_isMated 5 (some .boolean), .fieldLink RX9 17 "RecordBenchModel" "group" "[I", .code yX9_sortOf cX9_sortOf 4 (some .int), .code yX9_withinOf cX9_withinOf 11 (some .int), .fieldLink RX9 20 "RecordBenchModel" "inner" "[I", .code yX9_place cX9_place 4 (some .int), .code yX9_isOther cX9_isOther 4 (some .boolean), .code yX9_isNarrower cX9_isNarrower 4 (some .boolean), .code yX9_differs cX9_differs 8 (some .boolean), .fieldLink RX9 30 "RecordBenchModel" "plain" "[J", .fieldLink RX9 33 "RecordBenchModel" "plainText" "[I"] : List Cond) ++ wsX90)
theorem gs_wq_X9_walk_wsX90 : GoodIn wq_X9_walk wsX90 := fun w h => ⟨List.mem_cons_of_mem _ (List.mem_append_right _ h), (gt_wsX90 w h).2⟩
set_option maxRecDepth 20000 in
theorem gq_X9_walk_X9_isMake_239 : GoodIn wq_X9_walk (wsV RX9 239 RX9 yX9_isMake wq_X9_isMake) := goodIn_app (goodIn_r _ [4, 5, 6, 7] rfl rfl) (goodIn_ca (goodIn_r _ [13, 14] rfl rfl) gs_wq_X9_walk_wsX90)
set_option maxRecDepth 20000 in
theorem gq_X9_walk_X9_walks_374 : GoodIn wq_X9_walk (wsV RX9 374 RX9 yX9_walks wq_X9_walks) := goodIn_app (goodIn_r _ [8, 9, 10, 7] rfl rfl) (goodIn_ca (goodIn_r _ [15, 3, 1, 14, 16, 17, 18, 7, 19, 20, 21, 11, 12, 22, 23, 24, 25, 26, 27, 28, 29, 30, 31, 32, 33, 34, 35, 36, 37, 38, 39, 40, 41, 42, 43, 44, 45, 46, 47, 48, 49, 50, 51, 52, 53, 54] rfl rfl) gs_wq_X9_walk_wsX90)
set_option maxRecDepth 20000 in
theorem gq_X9_walk_X9_place_350 : GoodIn wq_X9_walk (wsS RX9 350 yX9_place wq_X9_place) := goodIn_app (goodIn_r _ [11, 12, 7] rfl rfl) (goodIn_r _ [49] rfl rfl)
set_option maxHeartbeats 4000000 in
set_option maxRecDepth 100000 in
theorem c_X9_walk (l : Launch) (dC : Nat → ClassId) (dI : Nat → Nat → Nat) (h0 : Nat) (ar : Nat → Nat) (ca : Nat → ClassId) (p0 : Int32) (p1 : Int32) (p2 : Int32) (st st' : RS) (r : Int32) (hf : x9_walk p0 p1 p2 st = some (r, st')) (sz : Nat) : Met l yX9_walk wq_X9_walk ({ frames := 4, cells := 0, slots := 0, locals := 120 }) (va_Pc [.ref h0, .int p0, .int p1, .int p2] (Pr (dC, dI) (rT ca) [] (RW h0 ar ca st) sz)) (va_Qi (fun r' (_ : Unit) => r' = r) (Bq (dC, dI) (fun _ => RW h0 ar ca st') (fun _ => []) (va_A (RW h0 ar ca st) sz)) (va_A (RW h0 ar ca st) sz)) 0 0 (va_A (RW h0 ar ca st) sz) := by
  refine Met.ofW (cc := cX9_walk) (maxL := 4) (ret := (some .int)) (by decide) rfl ?_
  intro p e s m args below meth c s₁ B hml hv
  obtain ⟨rfl, hsz, hP, hK, hD0, hN, hZ, hR⟩ := hv
  have hx := B.exec
  have hb := B.bytes
  have hr := B.returns
  have hts := atoms_spec (ws := wq_X9_walk) B.pre
  have hown : s.vm.findClass RX9 = some m.cls := findClass_of_methodNamed B.named
  have iRX9 : ∀ w ∈ u_ws RX9 TX9 60, w ∈ wq_X9_walk := fun w h => List.mem_cons_of_mem _ (List.mem_append_right _ h)
  subst hsz
  have hp : Rp (dC, dI) h0 ar ca (va_A (RW h0 ar ca st) s.heap.size) s.heap st s.heap [] := ⟨hP, hD0.self, va_S.rf⟩
  generalize hAe : va_A (RW h0 ar ca st) s.heap.size = A at hp hZ ⊢
  have hA : ∀ q : Nat, s.heap.size ≤ q → A q := fun q h => by rw [← hAe]; exact Or.inr h
  have hl := lv_entry ([.ref h0, .int p0, .int p1, .int p2]) (n := 4) (Nat.le_of_ble_eq_true rfl)
  rw [lg_entry_eq]
  generalize (lg_sl ([.ref h0, .int p0, .int p1, .int p2]) ++ List.replicate (4 - (lg_sl ([.ref h0, .int p0, .int p1, .int p2])).length) Slot.unset).toArray = ls at hl ⊢
  have hl : lv_has ls 4 [(0, .ref h0), (1, .int p0), (2, .int p1), (3, .int p2)] := hl
  unfold x9_walk at hf
  refine lv_aload_n hx hb dX9_walk_0 rfl (lv_at hl 0 rfl) ?_
  refine lv_iload_n hx hb dX9_walk_1 rfl (lv_at hl 1 rfl) ?_
  obtain ⟨r_3, st_1, hc_2, hf⟩ := bnd_some hf
  refine r_ci hp hA (va_runV (As := [.int p0]) (rest := []) ⟨hx, hb, hml, hown, hts⟩ (c_X9_isMake l dC dI h0 ar ca p0 _ _ _ hc_2 _) (cwV 1 hts gq_X9_walk_X9_isMake_239 rfl rfl rfl (by decide +kernel) ⟨Nat.le_of_ble_eq_true rfl, Nat.le_of_ble_eq_true rfl⟩) ⟨Pr.blind _, va_recv hK hp.1 (ci := 11) (q0 := 0) rfl rfl, r_pre hp hK hN hZ hA⟩ rfl rfl hl.1 rfl (lv_room (Nat.le_of_ble_eq_true rfl)) dX9_walk_2 ⟨Nat.le_of_ble_eq_true rfl, Nat.le_of_ble_eq_true rfl⟩) (fun H locs hp => ?_)
  refine lv_if_eq (tgt := 24) hx hb dX9_walk_5 (by decide) (fun c_4 => ?_) (fun c_4 => ?_)
  · have hf := pif_t c_4 hf
    refine lv_iconst (v := (-1)) hx hb dX9_walk_24 (by decide) ?_
    obtain ⟨e1, e2⟩ := pr_some hf
    exact W.iret (v := (-1)) hx hb hr (fun t ht hW => ⟨⟨(-1), (), rfl, e1, Rp.end e2 hp hK ht hW⟩, hp.2.2.F ht⟩) hp.2.2.2.2 dX9_walk_25
  · have hf := pif_f c_4 hf
    refine lv_aload_n hx hb dX9_walk_8 rfl (lv_at hl 0 rfl) ?_
    refine lv_iload_n hx hb dX9_walk_9 rfl (lv_at hl 2 rfl) ?_
    obtain ⟨r_7, st_5, hc_6, hf⟩ := bnd_some hf
    refine r_ci hp hA (va_runV (As := [.int p1]) (rest := []) ⟨hx, hb, hml, hown, hts⟩ (c_X9_isMake l dC dI h0 ar ca p1 _ _ _ hc_6 _) (cwV 1 hts gq_X9_walk_X9_isMake_239 rfl rfl rfl (by decide +kernel) ⟨Nat.le_of_ble_eq_true rfl, Nat.le_of_ble_eq_true rfl⟩) ⟨Pr.blind _, va_recv hK hp.1 (ci := 11) (q0 := 0) rfl rfl, r_pre hp hK hN hZ hA⟩ rfl rfl hl.1 rfl (lv_room (Nat.le_of_ble_eq_true rfl)) dX9_walk_10 ⟨Nat.le_of_ble_eq_true rfl, Nat.le_of_ble_eq_true rfl⟩) (fun H locs hp => ?_)
    refine lv_if_eq (tgt := 24) hx hb dX9_walk_13 (by decide) (fun c_8 => ?_) (fun c_8 => ?_)
    · have hf := pif_t c_8 hf
      refine lv_iconst (v := (-1)) hx hb dX9_walk_24 (by decide) ?_
      obtain ⟨e1, e2⟩ := pr_some hf
      exact W.iret (v := (-1)) hx hb hr (fun t ht hW => ⟨⟨(-1), (), rfl, e1, Rp.end e2 hp hK ht hW⟩, hp.2.2.F ht⟩) hp.2.2.2.2 dX9_walk_25
    · have hf := pif_f c_8 hf
      refine lv_aload_n hx hb dX9_walk_16 rfl (lv_at hl 0 rfl) ?_
      refine lv_iload_n hx hb dX9_walk_17 rfl (lv_at hl 3 rfl) ?_
      obtain ⟨r_11, st_9, hc_10, hf⟩ := bnd_some hf
      refine r_ci hp hA (va_runV (As := [.int p2]) (rest := []) ⟨hx, hb, hml, hown, hts⟩ (c_X9_isMake l dC dI h0 ar ca p2 _ _ _ hc_10 _) (cwV 1 hts gq_X9_walk_X9_isMake_239 rfl rfl rfl (by decide +kernel) ⟨Nat.le_of_ble_eq_true rfl, Nat.le_of_ble_eq_true rfl⟩) ⟨Pr.blind _, va_recv hK hp.1 (ci := 11) (q0 := 0) rfl rfl, r_pre hp hK hN hZ hA⟩ rfl rfl hl.1 rfl (lv_room (Nat.le_of_ble_eq_true rfl)) dX9_walk_18 ⟨Nat.le_of_ble_eq_true rfl, Nat.le_of_ble_eq_true rfl⟩) (fun H locs hp => ?_)
      refine lv_if_ne (tgt := 26) hx hb dX9_walk_21 (by decide) (fun c_12 => ?_) (fun c_12 => ?_)
      · have hf := pif_f c_12 hf
        refine lv_aload_n hx hb dX9_walk_26 rfl (lv_at hl 0 rfl) ?_
        obtain ⟨st_13, hc_14, hf⟩ := bnv_some hf
        refine r_cv hp hA (va_runV (As := []) (rest := []) ⟨hx, hb, hml, hown, hts⟩ (c_X9_walks l dC dI h0 ar ca  _ _ hc_14 _) (cwV 0 hts gq_X9_walk_X9_walks_374 rfl rfl rfl (by decide +kernel) ⟨Nat.le_of_ble_eq_true rfl, Nat.le_of_ble_eq_true rfl⟩) ⟨Pr.blind _, va_recv hK hp.1 (ci := 11) (q0 := 0) rfl rfl, r_pre hp hK hN hZ hA⟩ rfl rfl hl.1 rfl (lv_room (Nat.le_of_ble_eq_true rfl)) dX9_walk_27 ⟨Nat.le_of_ble_eq_true rfl, Nat.le_of_ble_eq_true rfl⟩) (fun H locs hp => ?_)
        refine lv_aload_n hx hb dX9_walk_30 rfl (lv_at hl 0 rfl) ?_
        refine lv_aload_n hx hb dX9_walk_31 rfl (lv_at hl 0 rfl) ?_
        refine r_ga hx hb hts iRX9 hown hK hp 58 (by decide) (by decide) (hts (.fieldLink RX9 129 "RecordBenchModel" "byNumber" "[I") (by decide +kernel)) dX9_walk_32 ?_
        refine lv_iload_n hx hb dX9_walk_35 rfl (lv_at hl 1 rfl) ?_
        refine lv_iload_n hx hb dX9_walk_36 rfl (lv_at hl 2 rfl) ?_
        refine lv_iload_n hx hb dX9_walk_37 rfl (lv_at hl 3 rfl) ?_
        refine lv_iconst (v := 0) hx hb dX9_walk_38 (by decide) ?_
        obtain ⟨r_18, st_16, hc_17, hf⟩ := bnd_some hf
        refine r_ci hp hA (va_runS (As := [.int p0, .int p1, .int p2, .int 0]) (rest := [.ref (ar 58), .ref h0]) ⟨hx, hb, hml, hown, hts⟩ (c_X9_place l dC dI h0 ar ca p0 p1 p2 0 _ _ _ hc_17 _) (cwS 4 hts gq_X9_walk_X9_place_350 rfl rfl rfl (by decide +kernel) ⟨Nat.le_of_ble_eq_true rfl, Nat.le_of_ble_eq_true rfl⟩) ⟨Pr.blind _, r_pre hp hK hN hZ hA⟩ rfl rfl hl.1 rfl (lv_room (Nat.le_of_ble_eq_true rfl)) dX9_walk_39 ⟨Nat.le_of_ble_eq_true rfl, Nat.le_of_ble_eq_true rfl⟩) (fun H locs hp => ?_)
        obtain ⟨g_19, hf⟩ := gd_some hf
        refine r_ai (n := 1024) hx hb hK hp 28 58 rfl rfl rfl g_19 dX9_walk_42 ?_
        refine r_pi (v := gF st_16 58 r_18.toNatClampNeg) (ty := .int) hx hb hts iRX9 hown hK hp 59 (by decide) rfl (hts (.fieldLink RX9 377 "RecordBenchModel" "by" "I") (by decide +kernel)) rfl (by decide +kernel) rfl rfl dX9_walk_43 (fun H locs hp => ?_)
        obtain ⟨st_20, est_20, hf⟩ := nam_some hf
        rw [← est_20] at hp
        refine lv_aload_n hx hb dX9_walk_46 rfl (lv_at hl 0 rfl) ?_
        refine r_ga hx hb hts iRX9 hown hK hp 57 (by decide) (by decide) (hts (.fieldLink RX9 126 "RecordBenchModel" "why" "[I") (by decide +kernel)) dX9_walk_47 ?_
        refine lv_iload_n hx hb dX9_walk_50 rfl (lv_at hl 1 rfl) ?_
        refine lv_iload_n hx hb dX9_walk_51 rfl (lv_at hl 2 rfl) ?_
        refine lv_iload_n hx hb dX9_walk_52 rfl (lv_at hl 3 rfl) ?_
        refine lv_iconst (v := 0) hx hb dX9_walk_53 (by decide) ?_
        obtain ⟨r_23, st_21, hc_22, hf⟩ := bnd_some hf
        refine r_ci hp hA (va_runS (As := [.int p0, .int p1, .int p2, .int 0]) (rest := [.ref (ar 57)]) ⟨hx, hb, hml, hown, hts⟩ (c_X9_place l dC dI h0 ar ca p0 p1 p2 0 _ _ _ hc_22 _) (cwS 4 hts gq_X9_walk_X9_place_350 rfl rfl rfl (by decide +kernel) ⟨Nat.le_of_ble_eq_true rfl, Nat.le_of_ble_eq_true rfl⟩) ⟨Pr.blind _, r_pre hp hK hN hZ hA⟩ rfl rfl hl.1 rfl (lv_room (Nat.le_of_ble_eq_true rfl)) dX9_walk_54 ⟨Nat.le_of_ble_eq_true rfl, Nat.le_of_ble_eq_true rfl⟩) (fun H locs hp => ?_)
        obtain ⟨g_24, hf⟩ := gd_some hf
        refine r_ai (n := 1024) hx hb hK hp 27 57 rfl rfl rfl g_24 dX9_walk_57 ?_
        obtain ⟨e1, e2⟩ := pr_some hf
        exact W.iret (v := gF st_21 57 r_23.toNatClampNeg) hx hb hr (fun t ht hW => ⟨⟨gF st_21 57 r_23.toNatClampNeg, (), rfl, e1, Rp.end e2 hp hK ht hW⟩, hp.2.2.F ht⟩) hp.2.2.2.2 dX9_walk_58
      · have hf := pif_t c_12 hf
        refine lv_iconst (v := (-1)) hx hb dX9_walk_24 (by decide) ?_
        obtain ⟨e1, e2⟩ := pr_some hf
        exact W.iret (v := (-1)) hx hb hr (fun t ht hW => ⟨⟨(-1), (), rfl, e1, Rp.end e2 hp hK ht hW⟩, hp.2.2.F ht⟩) hp.2.2.2.2 dX9_walk_25
noncomputable def x9_step (p0 : Int32) (p1 : Int32) (st : RS) : Option (Int32 × RS) := bnd (x9_walk p0 p1 p1 st) (fun r_3 st_1 => some (r_3, st_1))
def wq_X9_step : List Cond := .code yX9_step cX9_step 3 (some .int) :: (([.methodLink RX9 380 yX9_walk, .instanceMethod yX9_walk, .selects RX9 yX9_walk yX9_walk, .initialized RX9, .code yX9_walk cX9_walk 4 (some .int), .fieldLink RX9 129 "RecordBenchModel" "byNumber" "[I", .fieldLink RX9 377 "RecordBenchModel" "by" "I", .fieldLink RX9 126 "RecordBenchModel" "why" "[I", .methodLink RX9 239 yX9_isMake, .instanceMethod yX9_isMake, .selects RX9 yX9_isMake yX9_isMake, .methodLink RX9 374 yX9_walks, .instanceMethod yX9_walks, .selects RX9 yX9_walks yX9_walks, .methodLink RX9 350 yX9_place, .static yX9_place, .code yX9_isMake cX9_isMake 2 (some .boolean), .fieldLink RX9 7 "RecordBenchModel" "told" "[Z", .code yX9_walks cX9_walks 7 none, .methodLink RX9 246 yX9_has, .instanceMethod yX9_has, .selects RX9 yX9_has yX9_has, .methodLink RX9 371 yX9_whyOf, .instanceMethod yX9_whyOf, .selects RX9 yX9_whyOf yX9_whyOf, .code yX9_has cX9_has 3 (some .boolean), .fieldLink RX9 36 "RecordBenchModel" "isThere" "[Z", .fieldLink RX9 13 "RecordBenchModel" "kind" "[I", .code yX9_whyOf cX9_whyOf 6 (some .int), .methodLink RX9 364 yX9_isMated, .instanceMethod yX9_isMated, .selects RX9 yX9_isMated yX9_isMated, .methodLink RX9 346 yX9_sortOf, .instanceMethod yX9_sortOf, .selects RX9 yX9_sortOf yX9_sortOf, .methodLink RX9 367 yX9_withinOf, .instanceMethod yX9_withinOf, .selects RX9 yX9_withinOf yX9_withinOf, .methodLink RX9 354 yX9_isOther, .instanceMethod yX9_isOther, .selects RX9 yX9_isOther yX9_isOther, .methodLink RX9 358 yX9_isNarrower, .instanceMethod yX9_isNarrower, .selects RX9 yX9_isNarrower yX9_isNarrower, .methodLink RX9 361 yX9_differs, .instanceMethod yX9_differs, .selects RX9 yX9_differs yX9_differs, .code yX9_isMated cX9_isMated 5 (some .boolean), .fieldLink RX9 17 "RecordBenchModel" "group" "[I", .code yX9_sortOf cX9_sortOf 4 (some .int), .code yX9_withinOf cX9_withinOf 11 (some .int), .fieldLink RX9 20 "RecordBenchModel" "inner" "[I", .code yX9_place cX9_place 4 (some .int), .code yX9_isOther cX9_isOther 4 (some .boolean), .code yX9_isNarrower cX9_isNarrower 4 (some .boolean), .code yX9_differs cX9_differs 8 (some .boolean), .fieldLink RX9 30 "RecordBenchModel" "plain" "[J", .fieldLink RX9 33 "RecordBenchModel" "plainText" "[I"] : List Cond) ++ wsX90)
theorem gs_wq_X9_step_wsX90 : GoodIn wq_X9_step wsX90 := fun w h => ⟨List.mem_cons_of_mem _ (List.mem_append_right _ h), (gt_wsX90 w h).2⟩
set_option maxRecDepth 20000 in
theorem gq_X9_step_X9_walk_380 : GoodIn wq_X9_step (wsV RX9 380 RX9 yX9_walk wq_X9_walk) := goodIn_app (goodIn_r _ [1, 2, 3, 4] rfl rfl) (goodIn_ca (goodIn_r _ [5, 6, 7, 8, 9, 10, 11, 4, 12, 13, 14, 15, 16, 17, 18, 19, 20, 21, 22, 23, 24, 25, 26, 27, 28, 29, 30, 31, 32, 33, 34, 35, 36, 37, 38, 39, 40, 41, 42, 43, 44, 45, 46, 47, 48, 49, 50, 51, 52, 53, 54, 55, 56, 57, 58] rfl rfl) gs_wq_X9_step_wsX90)
set_option maxHeartbeats 4000000 in
set_option maxRecDepth 100000 in
theorem c_X9_step (l : Launch) (dC : Nat → ClassId) (dI : Nat → Nat → Nat) (h0 : Nat) (ar : Nat → Nat) (ca : Nat → ClassId) (p0 : Int32) (p1 : Int32) (st st' : RS) (r : Int32) (hf : x9_step p0 p1 st = some (r, st')) (sz : Nat) : Met l yX9_step wq_X9_step ({ frames := 5, cells := 0, slots := 0, locals := 147 }) (va_Pc [.ref h0, .int p0, .int p1] (Pr (dC, dI) (rT ca) [] (RW h0 ar ca st) sz)) (va_Qi (fun r' (_ : Unit) => r' = r) (Bq (dC, dI) (fun _ => RW h0 ar ca st') (fun _ => []) (va_A (RW h0 ar ca st) sz)) (va_A (RW h0 ar ca st) sz)) 0 0 (va_A (RW h0 ar ca st) sz) := by
  refine Met.ofW (cc := cX9_step) (maxL := 3) (ret := (some .int)) (by decide) rfl ?_
  intro p e s m args below meth c s₁ B hml hv
  obtain ⟨rfl, hsz, hP, hK, hD0, hN, hZ, hR⟩ := hv
  have hx := B.exec
  have hb := B.bytes
  have hr := B.returns
  have hts := atoms_spec (ws := wq_X9_step) B.pre
  have hown : s.vm.findClass RX9 = some m.cls := findClass_of_methodNamed B.named
  subst hsz
  have hp : Rp (dC, dI) h0 ar ca (va_A (RW h0 ar ca st) s.heap.size) s.heap st s.heap [] := ⟨hP, hD0.self, va_S.rf⟩
  generalize hAe : va_A (RW h0 ar ca st) s.heap.size = A at hp hZ ⊢
  have hA : ∀ q : Nat, s.heap.size ≤ q → A q := fun q h => by rw [← hAe]; exact Or.inr h
  have hl := lv_entry ([.ref h0, .int p0, .int p1]) (n := 3) (Nat.le_of_ble_eq_true rfl)
  rw [lg_entry_eq]
  generalize (lg_sl ([.ref h0, .int p0, .int p1]) ++ List.replicate (3 - (lg_sl ([.ref h0, .int p0, .int p1])).length) Slot.unset).toArray = ls at hl ⊢
  have hl : lv_has ls 3 [(0, .ref h0), (1, .int p0), (2, .int p1)] := hl
  unfold x9_step at hf
  refine lv_aload_n hx hb dX9_step_0 rfl (lv_at hl 0 rfl) ?_
  refine lv_iload_n hx hb dX9_step_1 rfl (lv_at hl 1 rfl) ?_
  refine lv_iload_n hx hb dX9_step_2 rfl (lv_at hl 2 rfl) ?_
  refine lv_iload_n hx hb dX9_step_3 rfl (lv_at hl 2 rfl) ?_
  obtain ⟨r_3, st_1, hc_2, hf⟩ := bnd_some hf
  refine r_ci hp hA (va_runV (As := [.int p0, .int p1, .int p1]) (rest := []) ⟨hx, hb, hml, hown, hts⟩ (c_X9_walk l dC dI h0 ar ca p0 p1 p1 _ _ _ hc_2 _) (cwV 3 hts gq_X9_step_X9_walk_380 rfl rfl rfl (by decide +kernel) ⟨Nat.le_of_ble_eq_true rfl, Nat.le_of_ble_eq_true rfl⟩) ⟨Pr.blind _, va_recv hK hp.1 (ci := 11) (q0 := 0) rfl rfl, r_pre hp hK hN hZ hA⟩ rfl rfl hl.1 rfl (lv_room (Nat.le_of_ble_eq_true rfl)) dX9_step_4 ⟨Nat.le_of_ble_eq_true rfl, Nat.le_of_ble_eq_true rfl⟩) (fun H locs hp => ?_)
  obtain ⟨e1, e2⟩ := pr_some hf
  exact W.iret (v := r_3) hx hb hr (fun t ht hW => ⟨⟨r_3, (), rfl, e1, Rp.end e2 hp hK ht hW⟩, hp.2.2.F ht⟩) hp.2.2.2.2 dX9_step_7
noncomputable def x9_by  (st : RS) : Option (Int32 × RS) := some (gI st 59, st)
def wq_X9_by : List Cond := .code yX9_by cX9_by 1 (some .int) :: (([.fieldLink RX9 377 "RecordBenchModel" "by" "I"] : List Cond) ++ wsX90)
set_option maxHeartbeats 4000000 in
set_option maxRecDepth 100000 in
theorem c_X9_by (l : Launch) (dC : Nat → ClassId) (dI : Nat → Nat → Nat) (h0 : Nat) (ar : Nat → Nat) (ca : Nat → ClassId)  (st st' : RS) (r : Int32) (hf : x9_by  st = some (r, st')) (sz : Nat) : Met l yX9_by wq_X9_by ({ frames := 0, cells := 0, slots := 0, locals := 0 }) (va_Pc [.ref h0] (Pr (dC, dI) (rT ca) [] (RW h0 ar ca st) sz)) (va_Qi (fun r' (_ : Unit) => r' = r) (Bq (dC, dI) (fun _ => RW h0 ar ca st') (fun _ => []) (va_A (RW h0 ar ca st) sz)) (va_A (RW h0 ar ca st) sz)) 0 0 (va_A (RW h0 ar ca st) sz) := by
  refine Met.ofW (cc := cX9_by) (maxL := 1) (ret := (some .int)) (by decide) rfl ?_
  intro p e s m args below meth c s₁ B hml hv
  obtain ⟨rfl, hsz, hP, hK, hD0, hN, hZ, hR⟩ := hv
  have hx := B.exec
  have hb := B.bytes
  have hr := B.returns
  have hts := atoms_spec (ws := wq_X9_by) B.pre
  have hown : s.vm.findClass RX9 = some m.cls := findClass_of_methodNamed B.named
  have iRX9 : ∀ w ∈ u_ws RX9 TX9 60, w ∈ wq_X9_by := fun w h => List.mem_cons_of_mem _ (List.mem_append_right _ h)
  subst hsz
  have hp : Rp (dC, dI) h0 ar ca (va_A (RW h0 ar ca st) s.heap.size) s.heap st s.heap [] := ⟨hP, hD0.self, va_S.rf⟩
  generalize hAe : va_A (RW h0 ar ca st) s.heap.size = A at hp hZ ⊢
  have hA : ∀ q : Nat, s.heap.size ≤ q → A q := fun q h => by rw [← hAe]; exact Or.inr h
  have hl := lv_entry ([.ref h0]) (n := 1) (Nat.le_of_ble_eq_true rfl)
  rw [lg_entry_eq]
  generalize (lg_sl ([.ref h0]) ++ List.replicate (1 - (lg_sl ([.ref h0])).length) Slot.unset).toArray = ls at hl ⊢
  have hl : lv_has ls 1 [(0, .ref h0)] := hl
  unfold x9_by at hf
  refine lv_aload_n hx hb dX9_by_0 rfl (lv_at hl 0 rfl) ?_
  refine r_gi hx hb hts iRX9 hown hK hp 59 (by decide) rfl (hts (.fieldLink RX9 377 "RecordBenchModel" "by" "I") (by decide +kernel)) dX9_by_1 ?_
  obtain ⟨e1, e2⟩ := pr_some hf
  exact W.iret (v := gI st 59) hx hb hr (fun t ht hW => ⟨⟨gI st 59, (), rfl, e1, Rp.end e2 hp hK ht hW⟩, hp.2.2.F ht⟩) hp.2.2.2.2 dX9_by_4
noncomputable def x9_readers_18  : Nat → Int32 → Int32 → Int32 → RS → Option (Int32 × RS)
  | 0 => fun _ _ _ _ => none
  | n + 1 => fun l1 l2 l3 st => pif (8 ≤ l3) (some (l2, st)) (gd (vp_in l3 8) (pif ((gF st 0 l3.toNatClampNeg) = 0) (nam (l3 + 1) (fun v_4 => (x9_readers_18 n) l1 l2 v_4 st)) (bnd (x9_place l3 l1 l1 0 st) (fun r_7 st_5 => gd (vp_in r_7 1024) (pif ((gF st_5 57 r_7.toNatClampNeg) = 0) (nam (l2 + 1) (fun v_11 => nam (l3 + 1) (fun v_12 => (x9_readers_18 n) l1 v_11 v_12 st_5))) (nam (l3 + 1) (fun v_10 => (x9_readers_18 n) l1 l2 v_10 st_5)))))))
theorem x9_readers_18_z  (l1 : Int32) (l2 : Int32) (l3 : Int32) (st : RS) : x9_readers_18  0 l1 l2 l3 st = none := rfl
theorem x9_readers_18_s  (n : Nat) (l1 : Int32) (l2 : Int32) (l3 : Int32) (st : RS) : x9_readers_18  (n + 1) l1 l2 l3 st = pif (8 ≤ l3) (some (l2, st)) (gd (vp_in l3 8) (pif ((gF st 0 l3.toNatClampNeg) = 0) (nam (l3 + 1) (fun v_4 => (x9_readers_18 n) l1 l2 v_4 st)) (bnd (x9_place l3 l1 l1 0 st) (fun r_7 st_5 => gd (vp_in r_7 1024) (pif ((gF st_5 57 r_7.toNatClampNeg) = 0) (nam (l2 + 1) (fun v_11 => nam (l3 + 1) (fun v_12 => (x9_readers_18 n) l1 v_11 v_12 st_5))) (nam (l3 + 1) (fun v_10 => (x9_readers_18 n) l1 l2 v_10 st_5))))))) := rfl
noncomputable def x9_readers (p0 : Int32) (st : RS) : Option (Int32 × RS) := bnd (x9_isMake p0 st) (fun r_15 st_13 => pif (r_15 = 0) (some (((-1) : Int32), st_13)) (bnv (x9_walks st_13) (fun st_17 => x9_readers_18  fuel p0 0 0 st_17)))
def wq_X9_readers : List Cond := .code yX9_readers cX9_readers 4 (some .int) :: (([.fieldLink RX9 7 "RecordBenchModel" "told" "[Z", .fieldLink RX9 126 "RecordBenchModel" "why" "[I", .methodLink RX9 350 yX9_place, .static yX9_place, .initialized RX9, .methodLink RX9 239 yX9_isMake, .instanceMethod yX9_isMake, .selects RX9 yX9_isMake yX9_isMake, .methodLink RX9 374 yX9_walks, .instanceMethod yX9_walks, .selects RX9 yX9_walks yX9_walks, .code yX9_place cX9_place 4 (some .int), .code yX9_isMake cX9_isMake 2 (some .boolean), .code yX9_walks cX9_walks 7 none, .fieldLink RX9 129 "RecordBenchModel" "byNumber" "[I", .methodLink RX9 246 yX9_has, .instanceMethod yX9_has, .selects RX9 yX9_has yX9_has, .methodLink RX9 371 yX9_whyOf, .instanceMethod yX9_whyOf, .selects RX9 yX9_whyOf yX9_whyOf, .code yX9_has cX9_has 3 (some .boolean), .fieldLink RX9 36 "RecordBenchModel" "isThere" "[Z", .fieldLink RX9 13 "RecordBenchModel" "kind" "[I", .code yX9_whyOf cX9_whyOf 6 (some .int), .methodLink RX9 364 yX9_isMated, .instanceMethod yX9_isMated, .selects RX9 yX9_isMated yX9_isMated, .methodLink RX9 346 yX9_sortOf, .instanceMethod yX9_sortOf, .selects RX9 yX9_sortOf yX9_sortOf, .methodLink RX9 367 yX9_withinOf, .instanceMethod yX9_withinOf, .selects RX9 yX9_withinOf yX9_withinOf, .methodLink RX9 354 yX9_isOther, .instanceMethod yX9_isOther, .selects RX9 yX9_isOther yX9_isOther, .methodLink RX9 358 yX9_isNarrower, .instanceMethod yX9_isNarrower, .selects RX9 yX9_isNarrower yX9_isNarrower, .methodLink RX9 361 yX9_differs, .instanceMethod yX9_differs, .selects RX9 yX9_differs yX9_differs, .code yX9_isMated cX9_isMated 5 (some .boolean), .fieldLink RX9 17 "RecordBenchModel" "group" "[I", .code yX9_sortOf cX9_sortOf 4 (some .int), .code yX9_withinOf cX9_withinOf 11 (some .int), .fieldLink RX9 20 "RecordBenchModel" "inner" "[I", .code yX9_isOther cX9_isOther 4 (some .boolean), .code yX9_isNarrower cX9_isNarrower 4 (some .boolean), .code yX9_differs cX9_differs 8 (some .boolean), .fieldLink RX9 30 "RecordBenchModel" "plain" "[J", .fieldLink RX9 33 "RecordBenchModel" "plainText" "[I"] : List Cond) ++ wsX90)
set_option maxRecDepth 20000 in
theorem gq_X9_readers_X9_place_350 : GoodIn wq_X9_readers (wsS RX9 350 yX9_place wq_X9_place) := goodIn_app (goodIn_r _ [3, 4, 5] rfl rfl) (goodIn_r _ [12] rfl rfl)
theorem gs_wq_X9_readers_wsX90 : GoodIn wq_X9_readers wsX90 := fun w h => ⟨List.mem_cons_of_mem _ (List.mem_append_right _ h), (gt_wsX90 w h).2⟩
set_option maxRecDepth 20000 in
theorem gq_X9_readers_X9_isMake_239 : GoodIn wq_X9_readers (wsV RX9 239 RX9 yX9_isMake wq_X9_isMake) := goodIn_app (goodIn_r _ [6, 7, 8, 5] rfl rfl) (goodIn_ca (goodIn_r _ [13, 1] rfl rfl) gs_wq_X9_readers_wsX90)
set_option maxRecDepth 20000 in
theorem gq_X9_readers_X9_walks_374 : GoodIn wq_X9_readers (wsV RX9 374 RX9 yX9_walks wq_X9_walks) := goodIn_app (goodIn_r _ [9, 10, 11, 5] rfl rfl) (goodIn_ca (goodIn_r _ [14, 2, 15, 1, 16, 17, 18, 5, 19, 20, 21, 3, 4, 22, 23, 24, 25, 26, 27, 28, 29, 30, 31, 32, 33, 34, 35, 36, 37, 38, 39, 40, 41, 42, 43, 44, 45, 46, 47, 48, 12, 49, 50, 51, 52, 53] rfl rfl) gs_wq_X9_readers_wsX90)
set_option maxHeartbeats 4000000 in
set_option maxRecDepth 100000 in
theorem c_X9_readers (l : Launch) (dC : Nat → ClassId) (dI : Nat → Nat → Nat) (h0 : Nat) (ar : Nat → Nat) (ca : Nat → ClassId) (p0 : Int32) (st st' : RS) (r : Int32) (hf : x9_readers p0 st = some (r, st')) (sz : Nat) : Met l yX9_readers wq_X9_readers ({ frames := 4, cells := 0, slots := 0, locals := 120 }) (va_Pc [.ref h0, .int p0] (Pr (dC, dI) (rT ca) [] (RW h0 ar ca st) sz)) (va_Qi (fun r' (_ : Unit) => r' = r) (Bq (dC, dI) (fun _ => RW h0 ar ca st') (fun _ => []) (va_A (RW h0 ar ca st) sz)) (va_A (RW h0 ar ca st) sz)) 0 0 (va_A (RW h0 ar ca st) sz) := by
  refine Met.ofW (cc := cX9_readers) (maxL := 4) (ret := (some .int)) (by decide) rfl ?_
  intro p e s m args below meth c s₁ B hml hv
  obtain ⟨rfl, hsz, hP, hK, hD0, hN, hZ, hR⟩ := hv
  have hx := B.exec
  have hb := B.bytes
  have hr := B.returns
  have hts := atoms_spec (ws := wq_X9_readers) B.pre
  have hown : s.vm.findClass RX9 = some m.cls := findClass_of_methodNamed B.named
  have iRX9 : ∀ w ∈ u_ws RX9 TX9 60, w ∈ wq_X9_readers := fun w h => List.mem_cons_of_mem _ (List.mem_append_right _ h)
  subst hsz
  have hp : Rp (dC, dI) h0 ar ca (va_A (RW h0 ar ca st) s.heap.size) s.heap st s.heap [] := ⟨hP, hD0.self, va_S.rf⟩
  generalize hAe : va_A (RW h0 ar ca st) s.heap.size = A at hp hZ ⊢
  have hA : ∀ q : Nat, s.heap.size ≤ q → A q := fun q h => by rw [← hAe]; exact Or.inr h
  have hl := lv_entry ([.ref h0, .int p0]) (n := 4) (Nat.le_of_ble_eq_true rfl)
  rw [lg_entry_eq]
  generalize (lg_sl ([.ref h0, .int p0]) ++ List.replicate (4 - (lg_sl ([.ref h0, .int p0])).length) Slot.unset).toArray = ls at hl ⊢
  have hl : lv_has ls 4 [(0, .ref h0), (1, .int p0)] := hl
  refine W_lp (fun n18 (u : Int32 × Int32 × Int32 × RS) H locs ls => match u with | (l1, l2, l3, st) => x9_readers_18 n18 l1 l2 l3 st = some (r, st') ∧ Rp (dC, dI) h0 ar ca A s.heap st H locs ∧ lv_has ls 4 [(0, .ref h0), (1, .int l1), (2, .int l2), (3, .int l3)]) (fun (u : Int32 × Int32 × Int32 × RS) ls => match u with | (l1, l2, l3, st) => F0 m 18 ls []) ?_ ?_ (fun J18 => ?_)
  · intro u H locs ls hu
    obtain ⟨l1, l2, l3, st⟩ := u
    obtain ⟨hf, hp, hl⟩ := hu
    rw [x9_readers_18_z] at hf
    cases hf
  · intro n18 ih18 u H locs ls hu
    obtain ⟨l1, l2, l3, st⟩ := u
    obtain ⟨hf, hp, hl⟩ := hu
    show W p l e _ s m _ below meth c _ _ _ _ _ (F0 m 18 ls [])
    rw [x9_readers_18_s] at hf
    refine lv_iload_n hx hb dX9_readers_18 rfl (lv_at hl 3 rfl) ?_
    refine lv_bipush (v := 8) hx hb dX9_readers_19 (by decide) ?_
    refine lv_icmp_ge (tgt := 57) hx hb dX9_readers_21 (by decide) (fun c_1 => ?_) (fun c_1 => ?_)
    · have hf := pif_t c_1 hf
      refine lv_iload_n hx hb dX9_readers_57 rfl (lv_at hl 2 rfl) ?_
      obtain ⟨e1, e2⟩ := pr_some hf
      exact W.iret (v := l2) hx hb hr (fun t ht hW => ⟨⟨l2, (), rfl, e1, Rp.end e2 hp hK ht hW⟩, hp.2.2.F ht⟩) hp.2.2.2.2 dX9_readers_58
    · have hf := pif_f c_1 hf
      refine lv_aload_n hx hb dX9_readers_24 rfl (lv_at hl 0 rfl) ?_
      refine r_ga hx hb hts iRX9 hown hK hp 0 (by decide) (by decide) (hts (.fieldLink RX9 7 "RecordBenchModel" "told" "[Z") (by decide +kernel)) dX9_readers_25 ?_
      refine lv_iload_n hx hb dX9_readers_28 rfl (lv_at hl 3 rfl) ?_
      obtain ⟨g_2, hf⟩ := gd_some hf
      refine r_az (n := 8) hx hb hK hp 0 0 rfl rfl rfl g_2 dX9_readers_29 ?_
      refine lv_if_eq (tgt := 51) hx hb dX9_readers_30 (by decide) (fun c_3 => ?_) (fun c_3 => ?_)
      · have hf := pif_t c_3 hf
        obtain ⟨v_4, ev_4, hf⟩ := nam_some hf
        refine lv_iinc (v := v_4) (lv' := [(3, .int v_4), (0, .ref h0), (1, .int l1), (2, .int l2)]) hx hb dX9_readers_51 hl (k := 3) rfl ev_4.symm (by decide) rfl (fun ls hl => ?_)
        refine lv_goto (tgt := 18) hx hb dX9_readers_54 (by decide) ?_
        exact ih18 (l1, l2, v_4, st) _ _ _ ⟨hf, hp, (lv_sub hl [1, 2, 3, 0] rfl)⟩
      · have hf := pif_f c_3 hf
        refine lv_aload_n hx hb dX9_readers_33 rfl (lv_at hl 0 rfl) ?_
        refine r_ga hx hb hts iRX9 hown hK hp 57 (by decide) (by decide) (hts (.fieldLink RX9 126 "RecordBenchModel" "why" "[I") (by decide +kernel)) dX9_readers_34 ?_
        refine lv_iload_n hx hb dX9_readers_37 rfl (lv_at hl 3 rfl) ?_
        refine lv_iload_n hx hb dX9_readers_38 rfl (lv_at hl 1 rfl) ?_
        refine lv_iload_n hx hb dX9_readers_39 rfl (lv_at hl 1 rfl) ?_
        refine lv_iconst (v := 0) hx hb dX9_readers_40 (by decide) ?_
        obtain ⟨r_7, st_5, hc_6, hf⟩ := bnd_some hf
        refine r_ci hp hA (va_runS (As := [.int l3, .int l1, .int l1, .int 0]) (rest := [.ref (ar 57)]) ⟨hx, hb, hml, hown, hts⟩ (c_X9_place l dC dI h0 ar ca l3 l1 l1 0 _ _ _ hc_6 _) (cwS 4 hts gq_X9_readers_X9_place_350 rfl rfl rfl (by decide +kernel) ⟨Nat.le_of_ble_eq_true rfl, Nat.le_of_ble_eq_true rfl⟩) ⟨Pr.blind _, r_pre hp hK hN hZ hA⟩ rfl rfl hl.1 rfl (lv_room (Nat.le_of_ble_eq_true rfl)) dX9_readers_41 ⟨Nat.le_of_ble_eq_true rfl, Nat.le_of_ble_eq_true rfl⟩) (fun H locs hp => ?_)
        obtain ⟨g_8, hf⟩ := gd_some hf
        refine r_ai (n := 1024) hx hb hK hp 27 57 rfl rfl rfl g_8 dX9_readers_44 ?_
        refine lv_if_ne (tgt := 51) hx hb dX9_readers_45 (by decide) (fun c_9 => ?_) (fun c_9 => ?_)
        · have hf := pif_f c_9 hf
          obtain ⟨v_10, ev_10, hf⟩ := nam_some hf
          refine lv_iinc (v := v_10) (lv' := [(3, .int v_10), (0, .ref h0), (1, .int l1), (2, .int l2)]) hx hb dX9_readers_51 hl (k := 3) rfl ev_10.symm (by decide) rfl (fun ls hl => ?_)
          refine lv_goto (tgt := 18) hx hb dX9_readers_54 (by decide) ?_
          exact ih18 (l1, l2, v_10, st_5) _ _ _ ⟨hf, hp, (lv_sub hl [1, 2, 3, 0] rfl)⟩
        · have hf := pif_t c_9 hf
          obtain ⟨v_11, ev_11, hf⟩ := nam_some hf
          refine lv_iinc (v := v_11) (lv' := [(2, .int v_11), (0, .ref h0), (1, .int l1), (3, .int l3)]) hx hb dX9_readers_48 hl (k := 2) rfl ev_11.symm (by decide) rfl (fun ls hl => ?_)
          obtain ⟨v_12, ev_12, hf⟩ := nam_some hf
          refine lv_iinc (v := v_12) (lv' := [(3, .int v_12), (2, .int v_11), (0, .ref h0), (1, .int l1)]) hx hb dX9_readers_51 hl (k := 3) rfl ev_12.symm (by decide) rfl (fun ls hl => ?_)
          refine lv_goto (tgt := 18) hx hb dX9_readers_54 (by decide) ?_
          exact ih18 (l1, v_11, v_12, st_5) _ _ _ ⟨hf, hp, (lv_sub hl [2, 3, 1, 0] rfl)⟩
  unfold x9_readers at hf
  refine lv_aload_n hx hb dX9_readers_0 rfl (lv_at hl 0 rfl) ?_
  refine lv_iload_n hx hb dX9_readers_1 rfl (lv_at hl 1 rfl) ?_
  obtain ⟨r_15, st_13, hc_14, hf⟩ := bnd_some hf
  refine r_ci hp hA (va_runV (As := [.int p0]) (rest := []) ⟨hx, hb, hml, hown, hts⟩ (c_X9_isMake l dC dI h0 ar ca p0 _ _ _ hc_14 _) (cwV 1 hts gq_X9_readers_X9_isMake_239 rfl rfl rfl (by decide +kernel) ⟨Nat.le_of_ble_eq_true rfl, Nat.le_of_ble_eq_true rfl⟩) ⟨Pr.blind _, va_recv hK hp.1 (ci := 11) (q0 := 0) rfl rfl, r_pre hp hK hN hZ hA⟩ rfl rfl hl.1 rfl (lv_room (Nat.le_of_ble_eq_true rfl)) dX9_readers_2 ⟨Nat.le_of_ble_eq_true rfl, Nat.le_of_ble_eq_true rfl⟩) (fun H locs hp => ?_)
  refine lv_if_ne (tgt := 10) hx hb dX9_readers_5 (by decide) (fun c_16 => ?_) (fun c_16 => ?_)
  · have hf := pif_f c_16 hf
    refine lv_aload_n hx hb dX9_readers_10 rfl (lv_at hl 0 rfl) ?_
    obtain ⟨st_17, hc_18, hf⟩ := bnv_some hf
    refine r_cv hp hA (va_runV (As := []) (rest := []) ⟨hx, hb, hml, hown, hts⟩ (c_X9_walks l dC dI h0 ar ca  _ _ hc_18 _) (cwV 0 hts gq_X9_readers_X9_walks_374 rfl rfl rfl (by decide +kernel) ⟨Nat.le_of_ble_eq_true rfl, Nat.le_of_ble_eq_true rfl⟩) ⟨Pr.blind _, va_recv hK hp.1 (ci := 11) (q0 := 0) rfl rfl, r_pre hp hK hN hZ hA⟩ rfl rfl hl.1 rfl (lv_room (Nat.le_of_ble_eq_true rfl)) dX9_readers_11 ⟨Nat.le_of_ble_eq_true rfl, Nat.le_of_ble_eq_true rfl⟩) (fun H locs hp => ?_)
    refine lv_iconst (v := 0) hx hb dX9_readers_14 (by decide) ?_
    refine lv_istore_n (lv' := [(2, .int 0), (0, .ref h0), (1, .int p0)]) hx hb dX9_readers_15 rfl hl (by decide) rfl (fun ls hl => ?_)
    refine lv_iconst (v := 0) hx hb dX9_readers_16 (by decide) ?_
    refine lv_istore_n (lv' := [(3, .int 0), (2, .int 0), (0, .ref h0), (1, .int p0)]) hx hb dX9_readers_17 rfl hl (by decide) rfl (fun ls hl => ?_)
    exact J18 fuel (p0, 0, 0, st_17) _ _ _ ⟨hf, hp, (lv_sub hl [2, 3, 1, 0] rfl)⟩
  · have hf := pif_t c_16 hf
    refine lv_iconst (v := (-1)) hx hb dX9_readers_8 (by decide) ?_
    obtain ⟨e1, e2⟩ := pr_some hf
    exact W.iret (v := (-1)) hx hb hr (fun t ht hW => ⟨⟨(-1), (), rfl, e1, Rp.end e2 hp hK ht hW⟩, hp.2.2.F ht⟩) hp.2.2.2.2 dX9_readers_9
